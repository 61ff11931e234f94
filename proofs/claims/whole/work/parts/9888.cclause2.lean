/-! ===== a town's text: the class's clauses, second part ===== -/
section CCL
variable {X n x c : Nat} {B : Nat → Nat} {s : Drf} {μ ν ρ : Mm}
variable {D : Tn} {a b d e f g : Nat}
theorem c_fac (h : CS X n B c s x μ) (hn : s.1 0 1 < 12) : COut X n B c μ (f_X8_readPersonAndDay (X + 57) (c + 4) μ) (mkr n B (sFac n B s x)) := by
  have h1 := h.1.1
  have n8 := h.2.1.1.1
  have hc := h.1.2.2.2
  obtain ⟨A1, A2⟩ := c_nmd h
  unfold f_X8_readPersonAndDay sFac
  rw [if_pos (by rw [mk_57 h1])]
  cases ea : rdN n B s x with
  | inl e =>
    obtain ⟨ν, a1, a2, a3⟩ := A1 e ea
    rw [a1, ob, if_pos rfl]
    exact COl rfl a2 a3
  | inr a =>
    obtain ⟨ν, a1, a2, a3, a4⟩ := A2 a ea
    have ha := (rdN_r ea).2.2
    rw [a1, ob, if_neg (neg1_ne (by omega))]
    obtain ⟨C1, C2⟩ := c_bt (lo := 0) (hi := 27) a3 (by decide) (by decide)
    show COut X n B c μ _ (mkr n B (eb (rdB n B 0 27 (tN n B x)) _))
    cases ec : rdB n B 0 27 (tN n B x) with
    | inl e =>
      obtain ⟨ν3, c1, c2, c3⟩ := C1 e ec
      rw [show f_X8_readBetween (X + 57) 0 27 ν = _ from c1, ob, if_pos rfl]
      exact COl rfl (FrC_t a2 c2) c3
    | inr v =>
      obtain ⟨ν3, c1, c2, c3, c4⟩ := C2 v ec
      have hv := rdB_r ec
      have g1 := c3.1.1
      have hT := tws_c g1 hc
      rw [show f_X8_readBetween (X + 57) 0 27 ν = _ from c1, ob, if_neg (neg1_ne (by omega)), e_rowAdd (tc_r4 hT) c3.2.2.1.2.1.2.1.1 hn (by decide), ob]
      refine COut_t (FrC_t a2 (FrC_t c2 (mA_fr (q := c + 4) (by omega)))) (COut_b (c_mk (CS_up c3 (mA_fr (q := c + 4) (by omega)) (ok_fac h.2.1 hn ha (by omega)) (ctn_fac c3.2.2.1.2.1) ?_ rfl rfl ?_)))
      · rw [mA_f (by omega) (by omega)]
      · rw [mA_f (by omega) (by omega)]
theorem cl_nap (h : CS X n B c s x μ) (hn : s.1 0 3 < 8) : COut X n B c μ (f_X8_readPersonAndDay (X + 57) (c + 8) μ) (mkr n B (sNap n B s x)) := by
  have h1 := h.1.1
  have n8 := h.2.1.1.1
  have hc := h.1.2.2.2
  obtain ⟨A1, A2⟩ := c_nmd h
  unfold f_X8_readPersonAndDay sNap
  rw [if_pos (by rw [mk_57 h1])]
  cases ea : rdN n B s x with
  | inl e =>
    obtain ⟨ν, a1, a2, a3⟩ := A1 e ea
    rw [a1, ob, if_pos rfl]
    exact COl rfl a2 a3
  | inr a =>
    obtain ⟨ν, a1, a2, a3, a4⟩ := A2 a ea
    have ha := (rdN_r ea).2.2
    rw [a1, ob, if_neg (neg1_ne (by omega))]
    obtain ⟨C1, C2⟩ := c_bt (lo := 0) (hi := 27) a3 (by decide) (by decide)
    show COut X n B c μ _ (mkr n B (eb (rdB n B 0 27 (tN n B x)) _))
    cases ec : rdB n B 0 27 (tN n B x) with
    | inl e =>
      obtain ⟨ν3, c1, c2, c3⟩ := C1 e ec
      rw [show f_X8_readBetween (X + 57) 0 27 ν = _ from c1, ob, if_pos rfl]
      exact COl rfl (FrC_t a2 c2) c3
    | inr v =>
      obtain ⟨ν3, c1, c2, c3, c4⟩ := C2 v ec
      have hv := rdB_r ec
      have g1 := c3.1.1
      have hT := tws_c g1 hc
      rw [show f_X8_readBetween (X + 57) 0 27 ν = _ from c1, ob, if_neg (neg1_ne (by omega)), e_rowAdd (tc_r8 hT) c3.2.2.1.2.1.2.1.2.2.1 hn (by decide), ob]
      refine COut_t (FrC_t a2 (FrC_t c2 (mA_fr (q := c + 8) (by omega)))) (COut_b (c_mk (CS_up c3 (mA_fr (q := c + 8) (by omega)) (ok_nap h.2.1 hn ha (by omega)) (ctn_nap c3.2.2.1.2.1) ?_ rfl rfl ?_)))
      · rw [mA_f (by omega) (by omega)]
      · rw [mA_f (by omega) (by omega)]
theorem c_dul (h : CS X n B c s x μ) (hn : s.1 0 6 < 8) : COut X n B c μ (f_X8_readDull (X + 57) μ) (mkr n B (sDul n B s x)) := by
  have h1 := h.1.1
  have n8 := h.2.1.1.1
  have hc := h.1.2.2.2
  obtain ⟨A1, A2⟩ := c_nmd h
  unfold f_X8_readDull sDul
  rw [if_pos (by rw [mk_57 h1])]
  cases ea : rdN n B s x with
  | inl e =>
    obtain ⟨ν, a1, a2, a3⟩ := A1 e ea
    rw [a1, ob, if_pos rfl]
    exact COl rfl a2 a3
  | inr a =>
    obtain ⟨ν, a1, a2, a3, a4⟩ := A2 a ea
    have ha := (rdN_r ea).2.2
    rw [a1, ob, if_neg (neg1_ne (by omega))]
    obtain ⟨C1, C2⟩ := c_bt (lo := 0) (hi := 27) a3 (by decide) (by decide)
    show COut X n B c μ _ (mkr n B (eb (rdB n B 0 27 (tN n B x)) _))
    cases ec : rdB n B 0 27 (tN n B x) with
    | inl e =>
      obtain ⟨ν3, c1, c2, c3⟩ := C1 e ec
      rw [show f_X8_readBetween (X + 57) 0 27 ν = _ from c1, ob, if_pos rfl]
      exact COl rfl (FrC_t a2 c2) c3
    | inr v =>
      obtain ⟨ν3, c1, c2, c3, c4⟩ := C2 v ec
      have hv := rdB_r ec
      rw [show f_X8_readBetween (X + 57) 0 27 ν = _ from c1, ob, if_neg (neg1_ne (by omega))]
      obtain ⟨E1, E2⟩ := c_bt (lo := v) (hi := 27) c3 (by omega) (by decide)
      show COut X n B c μ _ (mkr n B (eb (rdB n B v 27 (tN n B (tN n B x))) _))
      cases ee : rdB n B v 27 (tN n B (tN n B x)) with
      | inl e =>
        obtain ⟨ν4, d1, d2, d3⟩ := E1 e ee
        rw [show f_X8_readBetween (X + 57) (nI v) 27 ν3 = _ from d1, ob, if_pos rfl]
        exact COl rfl (FrC_t a2 (FrC_t c2 d2)) d3
      | inr w =>
        obtain ⟨ν4, d1, d2, d3, d4⟩ := E2 w ee
        have hw := rdB_r ee
        have g1 := d3.1.1
        have hT := tws_c g1 hc
        rw [show f_X8_readBetween (X + 57) (nI v) 27 ν3 = _ from d1, ob, if_neg (neg1_ne (by omega)), e_gfP (by rw [mk_57 g1]) d3.2.2.1.1, ob, tc_p6 hT, ob, e_rowAdd (tc_r10 hT) d3.2.2.1.2.1.2.1.2.2.2.1 hn (by decide), ob]
        refine COut_t (FrC_t a2 (FrC_t c2 (FrC_t d2 (mA_fr (q := c + 10) (by omega))))) (COut_b (c_mk (CS_up d3 (mA_fr (q := c + 10) (by omega)) (ok_dul h.2.1 hn ha (by omega) (by omega)) (ctn_dul d3.2.2.1.2.1) ?_ rfl rfl ?_)))
        · rw [mA_f (by omega) (by omega)]
        · rw [mA_f (by omega) (by omega)]
theorem c_wis {g : Nat} (h : CS X n B c s x μ) (hn : s.1 0 9 < 8) (hg : g ≤ 1) : COut X n B c μ (f_X8_readWish (X + 57) (nI (1 - g)) μ) (mkr n B (sWis n B g s x)) := by
  have h1 := h.1.1
  have n8 := h.2.1.1.1
  have hc := h.1.2.2.2
  obtain ⟨A1, A2⟩ := c_nmd h
  unfold f_X8_readWish sWis
  rw [if_pos (by rw [mk_57 h1])]
  cases ea : rdN n B s x with
  | inl e =>
    obtain ⟨ν, a1, a2, a3⟩ := A1 e ea
    rw [a1, ob, if_pos rfl]
    exact COl rfl a2 a3
  | inr a =>
    obtain ⟨ν, a1, a2, a3, a4⟩ := A2 a ea
    have ha := (rdN_r ea).2.2
    rw [a1, ob, if_neg (neg1_ne (by omega))]
    obtain ⟨C1, C2⟩ := c_bt (lo := 0) (hi := 11) a3 (by decide) (by decide)
    show COut X n B c μ _ (mkr n B (eb (rdB n B 0 11 (tN n B x)) _))
    cases ec : rdB n B 0 11 (tN n B x) with
    | inl e =>
      obtain ⟨ν3, c1, c2, c3⟩ := C1 e ec
      rw [show f_X8_readBetween (X + 57) 0 11 ν = _ from c1, ob, if_pos rfl]
      exact COl rfl (FrC_t a2 c2) c3
    | inr v =>
      obtain ⟨ν3, c1, c2, c3, c4⟩ := C2 v ec
      have hv := rdB_r ec
      rw [show f_X8_readBetween (X + 57) 0 11 ν = _ from c1, ob, if_neg (neg1_ne (by omega))]
      obtain ⟨E1, E2⟩ := c_bt (lo := 0) (hi := 27) c3 (by omega) (by decide)
      show COut X n B c μ _ (mkr n B (eb (rdB n B 0 27 (tN n B (tN n B x))) _))
      cases ee : rdB n B 0 27 (tN n B (tN n B x)) with
      | inl e =>
        obtain ⟨ν4, d1, d2, d3⟩ := E1 e ee
        rw [show f_X8_readBetween (X + 57) 0 27 ν3 = _ from d1, ob, if_pos rfl]
        exact COl rfl (FrC_t a2 (FrC_t c2 d2)) d3
      | inr w =>
        obtain ⟨ν4, d1, d2, d3, d4⟩ := E2 w ee
        have hw := rdB_r ee
        have g1 := d3.1.1
        have hT := tws_c g1 hc
        rw [show f_X8_readBetween (X + 57) 0 27 ν3 = _ from d1, ob, if_neg (neg1_ne (by omega)), e_gfP (by rw [mk_57 g1]) d3.2.2.1.1, ob, tc_p7 hT, ob, e_rowAdd (tc_r12 hT) d3.2.2.1.2.1.2.1.2.2.2.2 hn (by decide), ob]
        refine COut_t (FrC_t a2 (FrC_t c2 (FrC_t d2 (mA_fr (q := c + 12) (by omega))))) (COut_b (c_mk (CS_up d3 (mA_fr (q := c + 12) (by omega)) (ok_wis h.2.1 hn ha (by omega) (by omega) hg) (ctn_wis d3.2.2.1.2.1) ?_ rfl rfl ?_)))
        · rw [mA_f (by omega) (by omega)]
        · rw [mA_f (by omega) (by omega)]
/-! settings and single cells -/
theorem ctn_i {k j v : Nat} (hk : (k = 9 ∧ j = 0) ∨ (k = 10 ∧ j = 7) ∨ (k = 11 ∧ j = 11) ∨ (k = 12 ∧ j = 10) ∨ (k = 13 ∧ j = 4) ∨ (k = 14 ∧ j = 8) ∨ (k = 15 ∧ j = 5) ∨ (k = 16 ∧ j = 12)) (h : CTn c D μ) : CTn c (up D 0 j v) (ms_I μ c k (nI v)) := by
  obtain ⟨⟨a1, a2, a3, a4, a5, a6, a7, a8⟩, h2, h3, h4, h5, h6, h7, h8, h9⟩ := h
  have o : ∀ q, q ≠ c → mm_I (ms_I μ c k (nI v)) q = mm_I μ q := fun q hq => by rw [iI, if_neg hq]
  have t2 : (mm_I (ms_I μ c k (nI v)) (c + 4) 1 = nI (D 0 1) ∧ mm_I (ms_I μ c k (nI v)) (c + 6) 1 = nI (D 0 2) ∧ mm_I (ms_I μ c k (nI v)) (c + 8) 1 = nI (D 0 3) ∧ mm_I (ms_I μ c k (nI v)) (c + 10) 1 = nI (D 0 6) ∧ mm_I (ms_I μ c k (nI v)) (c + 12) 1 = nI (D 0 9)) := by rw [o _ (by omega), o _ (by omega), o _ (by omega), o _ (by omega), o _ (by omega)]; exact h2
  rw [← o _ (by omega)] at h3 h4 h5 h6 h7 h8 h9
  rcases hk with ⟨rfl, rfl⟩ | ⟨rfl, rfl⟩ | ⟨rfl, rfl⟩ | ⟨rfl, rfl⟩ | ⟨rfl, rfl⟩ | ⟨rfl, rfl⟩ | ⟨rfl, rfl⟩ | ⟨rfl, rfl⟩
  all_goals refine ⟨⟨?_, ?_, ?_, ?_, ?_, ?_, ?_, ?_⟩, t2, h3, h4, h5, h6, h7, h8, h9⟩
  all_goals first
    | (rw [rI, if_pos ⟨rfl, rfl⟩]; rfl)
    | (rw [rI, if_neg (by omega)]; first | exact a1 | exact a2 | exact a3 | exact a4 | exact a5 | exact a6 | exact a7 | exact a8)
theorem ctn_16 {p v : Nat} (h : CTn c D μ) : CTn c (up D 16 p v) (ms_I μ (c + 3) p (nI v)) := by
  obtain ⟨h1, h2, h3, h4, h5, h6, h7, h8, h9⟩ := h
  have o : ∀ q, q ≠ c + 3 → mm_I (ms_I μ (c + 3) p (nI v)) q = mm_I μ q := fun q hq => by rw [iI, if_neg hq]
  refine ⟨by rw [o _ (by omega)]; exact h1, by rw [o _ (by omega), o _ (by omega), o _ (by omega), o _ (by omega), o _ (by omega)]; exact h2, by rw [o _ (by omega)]; exact h3, by rw [o _ (by omega)]; exact h4, by rw [o _ (by omega)]; exact h5, by rw [o _ (by omega)]; exact h6, by rw [o _ (by omega)]; exact h7, by rw [o _ (by omega)]; exact h8, fun q hq => ?_⟩
  have e1 : up D 16 p v 16 q = if q = p then v else D 16 q := up_s D 16 p v q
  rw [e1, rI]
  by_cases z : q = p
  · rw [if_pos ⟨rfl, z⟩, if_pos z]
  · rw [if_neg (fun w => z w.2), if_neg z]; exact h9 q hq
theorem ctn_1 {p v : Nat} (h : CTn c D μ) : CTn c (up D 1 p (v + 1)) (ms_I μ (c + 2) p (nI v)) := by
  obtain ⟨h1, h2, h3, h4, h5, h6, h7, h8, h9⟩ := h
  have o : ∀ q, q ≠ c + 2 → mm_I (ms_I μ (c + 2) p (nI v)) q = mm_I μ q := fun q hq => by rw [iI, if_neg hq]
  refine ⟨by rw [o _ (by omega)]; exact h1, by rw [o _ (by omega), o _ (by omega), o _ (by omega), o _ (by omega), o _ (by omega)]; exact h2, by rw [o _ (by omega)]; exact h3, by rw [o _ (by omega)]; exact h4, by rw [o _ (by omega)]; exact h5, by rw [o _ (by omega)]; exact h6, by rw [o _ (by omega)]; exact h7, fun q hq => ?_, by rw [o _ (by omega)]; exact h9⟩
  have e1 : up D 1 p (v + 1) 1 q = if q = p then v + 1 else D 1 q := up_s D 1 p (v + 1) q
  rw [e1, rI]
  by_cases z : q = p
  · rw [if_pos ⟨rfl, z⟩, if_pos z, if_neg (by omega)]; rfl
  · rw [if_neg (fun w => z w.2), if_neg z]; exact h8 q hq
theorem c_setv {t v : Nat} {k : Nat} (h : CS X n B c s x μ) (hk : (k = 13 ∧ t = 4) ∨ (k = 14 ∧ t = 8) ∨ (k = 15 ∧ t = 5)) (ok : OkT (up s.1 0 t v)) : COut X n B c μ ((pf_I 8 k c (nI v) μ).bind fun m => f_X8_readSetting_J82 (X + 57) m) (mkr n B (.inr ((up s.1 0 t v, s.2), x))) := by
  have h1 := h.1.1
  have hc := h.1.2.2.2
  have hT := tws_c h1 hc
  unfold f_X8_readSetting_J82
  rw [tc_w hT, ob]
  refine COut_t (FrC_I (by omega)) (COut_b (c_mk (CS_up h (FrC_I (by omega)) ok (ctn_i (by omega) h.2.2.1.2.1) ?_ rfl ?_ ?_)))
  · rw [iI, if_neg (by omega)]
  · unfold up; rw [if_neg (by omega)]
  · rw [rI, if_neg (by omega)]
/-- law 9, deep 10, year 11, by the class's numbers -/
theorem c_set {t : Nat} (h : CS X n B c s x μ) (ht : t = 6 ∨ t = 7 ∨ t = 8) : COut X n B c μ (f_X8_readSetting (X + 57) (nI (kp t)) μ) (mkr n B (sSet n B t s x)) := by
  have h1 := h.1.1
  have hc := h.1.2.2.2
  have key : ∀ lo hi (l1 l2 : Int32), hi < 10000 → lo ≤ hi → (∀ v, lo ≤ v → v ≤ hi → OkT (up s.1 0 (if t = 6 then 4 else if t = 7 then 5 else 8) v)) → (t = 7 ∧ l2 = 1 ∨ t = 6 ∧ l2 = 0 ∧ l1 = 9 ∨ t = 8 ∧ l2 = 0 ∧ l1 = 10) → COut X n B c μ ((f_X8_readBetween (X + 57) (nI lo) (nI hi) μ).bind fun y => f_X8_readSetting_J34 (X + 57) l1 l2 y.1 y.2) (mkr n B (eb (rdB n B lo hi x) fun v => .inr ((up s.1 0 (if t = 6 then 4 else if t = 7 then 5 else 8) v, s.2), tN n B x))) := by
    intro lo hi l1 l2 hh hlo hok hl
    obtain ⟨C1, C2⟩ := c_bt (lo := lo) (hi := hi) h (by omega) hh
    unfold f_X8_readSetting_J34
    cases ec : rdB n B lo hi x with
    | inl e =>
      obtain ⟨ν3, c1, c2, c3⟩ := C1 e ec
      rw [c1, ob, if_pos rfl]
      exact COl rfl c2 c3
    | inr v =>
      obtain ⟨ν3, c1, c2, c3, c4⟩ := C2 v ec
      have hv := rdB_r ec
      have g1 := c3.1.1
      have ok := hok v hv.2.2.1 hv.2.2.2
      rw [c1, ob, if_neg (neg1_ne (by omega)), e_gfP (by rw [mk_57 g1]) c3.2.2.1.1, ob, ob, ob]
      show COut X n B c μ _ (mkr n B (.inr ((up s.1 0 (if t = 6 then 4 else if t = 7 then 5 else 8) v, s.2), tN n B x)))
      rcases hl with ⟨t7, l2e⟩ | ⟨t6, l2e, l1e⟩ | ⟨t8, l2e, l1e⟩
      · have et : (if t = 6 then 4 else if t = 7 then 5 else 8) = 5 := by rw [if_neg (by omega), if_pos t7]
        rw [et] at ok ⊢
        rw [l2e, if_neg (by decide)]
        exact COut_t c2 (c_setv c3 (by omega) ok)
      · have et : (if t = 6 then 4 else if t = 7 then 5 else 8) = 4 := by rw [if_pos t6]
        rw [et] at ok ⊢
        rw [l2e, if_pos rfl, l1e, if_pos rfl]
        exact COut_t c2 (c_setv c3 (by omega) ok)
      · have et : (if t = 6 then 4 else if t = 7 then 5 else 8) = 8 := by rw [if_neg (by omega), if_neg (by omega)]
        rw [et] at ok ⊢
        rw [l2e, if_pos rfl, l1e, if_neg (by decide)]
        exact COut_t c2 (c_setv c3 (by omega) ok)
  unfold f_X8_readSetting f_X8_readSetting_J11 sSet
  rw [if_pos (by rw [mk_57 h1])]
  rcases ht with t6 | t7 | t8
  · have e : nI (kp t) = 9 := by rw [t6]; rfl
    rw [e, if_neg (by decide), if_pos rfl]
    have := key 0 4095 9 0 (by decide) (by decide) (fun v _ hv => by rw [if_pos t6]; exact ok_law h.2.1 (by omega)) (Or.inr (Or.inl ⟨t6, rfl, rfl⟩))
    rw [show (if t = 7 then rdB n B 1 28 x else rdB n B 0 4095 x) = rdB n B 0 4095 x from if_neg (by omega)]
    exact this
  · have e : nI (kp t) = 11 := by rw [t7]; rfl
    rw [e, if_pos rfl, if_neg (by decide)]
    have := key 1 28 11 1 (by decide) (by decide) (fun v hv1 hv => by rw [if_neg (by omega), if_pos t7]; exact ok_year h.2.1 ⟨hv1, hv⟩) (Or.inl ⟨t7, rfl⟩)
    rw [show (if t = 7 then rdB n B 1 28 x else rdB n B 0 4095 x) = rdB n B 1 28 x from if_pos t7]
    exact this
  · have e : nI (kp t) = 10 := by rw [t8]; rfl
    rw [e, if_neg (by decide), if_pos rfl]
    have := key 0 4095 10 0 (by decide) (by decide) (fun v _ hv => by rw [if_neg (by omega), if_neg (by omega)]; exact ok_deep h.2.1 (by omega)) (Or.inr (Or.inr ⟨t8, rfl, rfl⟩))
    rw [show (if t = 7 then rdB n B 1 28 x else rdB n B 0 4095 x) = rdB n B 0 4095 x from if_neg (by omega)]
    exact this
end CCL
