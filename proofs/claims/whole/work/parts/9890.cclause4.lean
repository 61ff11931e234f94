/-! ===== a town's text: the class reads a clause ===== -/
section CCL
variable {X n x c : Nat} {B : Nat → Nat} {s : Drf} {μ ν ρ : Mm}
variable {D : Tn} {a b d e f g : Nat}
/-- which clause finds no room -/
def rml (D : Tn) (t : Nat) : Bool := if t = 0 then D 0 0 == 8 else if t = 2 then D 0 1 == 12 else if t = 3 then D 0 2 == 8 else if t = 4 then D 0 3 == 8 else if t = 5 then D 0 6 == 8 else if t = 9 then D 0 9 == 8 else if t = 10 then D 0 9 == 8 else false
theorem bz_d (p : Prop) [Decidable p] : bz p = nI (decide p).toNat := bz_n p
theorem c_rml {t : Nat} (ht : t < 12) (hT : TwS c (mm_K μ) (mm_P μ)) (hK : (mm_K μ (X + 57)).1 = 9) (k1 : gf_P 9 1 (X + 57) μ = some c) (h : CTn c D μ) (ok : OkT D) : f_X8_isRoomless (X + 57) (nI (kp t)) μ = some (nI (rml D t).toNat) := by
  have o := ok.1
  have ful : ∀ {q cap m : Nat}, RwS q cap (mm_K μ) (mm_P μ) → mm_I μ q 1 = nI m → m ≤ cap → cap ≤ 1000 → ((f_X2_isFull q μ).bind fun x => if x = 0 ∨ x = 1 then some x else none) = some (nI (m == cap).toNat) := by
    intro q cap m h1 h2 h3 h4
    rw [e_isFull h1 h2 h3 h4, ob, bz_d]
    by_cases z : m = cap
    · rw [z, decide_eq_true rfl, if_pos (show nI true.toNat = 0 ∨ nI true.toNat = 1 from Or.inr rfl)]; simp
    · rw [decide_eq_false z, if_pos (show nI false.toNat = 0 ∨ nI false.toNat = 1 from Or.inl rfl), show (m == cap) = false by simpa using z]
  unfold f_X8_isRoomless
  rw [if_pos hK, k1]
  simp only [ob, tc_p3 hT, tc_p4 hT, tc_p5 hT, tc_p6 hT, tc_p7 hT, ct_n hT h]
  rw [ful (tc_r4 hT) h.2.1.1 o.2.1 (by decide), ful (tc_r6 hT) h.2.1.2.1 o.2.2.1 (by decide), ful (tc_r8 hT) h.2.1.2.2.1 o.2.2.2.1 (by decide), ful (tc_r10 hT) h.2.1.2.2.2.1 o.2.2.2.2.2.2.2.1 (by decide), ful (tc_r12 hT) h.2.1.2.2.2.2 o.2.2.2.2.2.2.2.2.2.2.1 (by decide)]
  have ht' : t = 0 ∨ t = 1 ∨ t = 2 ∨ t = 3 ∨ t = 4 ∨ t = 5 ∨ t = 6 ∨ t = 7 ∨ t = 8 ∨ t = 9 ∨ t = 10 ∨ t = 11 := by omega
  rcases ht' with z | z | z | z | z | z | z | z | z | z | z | z <;> subst z
  · rw [if_pos (by rfl)]
    show (if nI (D 0 0) < 8 then _ else _) = some (nI (D 0 0 == 8).toNat)
    by_cases e : D 0 0 = 8
    · rw [e]; rfl
    · rw [if_pos (by rw [show (8 : Int32) = nI 8 from rfl, nI_lt_i (by omega) (by omega)]; omega)]
      have : (D 0 0 == 8) = false := by simpa using e
      rw [this]; rfl
  all_goals rfl
theorem CS_once {t : Nat} (ht : t < 12) (h : CS X n B c s x μ) : ∃ o, mm_I μ (X + 57) 2 = nI o ∧ o < 4096 ∧ (∀ u, u = 6 ∨ u = 7 ∨ u = 8 → o.testBit (kp u) = s.2.2 u) ∧ CS X n B c (s.1, s.2.1, if t = 6 ∨ t = 7 ∨ t = 8 then (fun i => s.2.2 i || i == t) else s.2.2) x (ms_I μ (X + 57) 2 (nI (o ||| 2 ^ kp t))) := by
  obtain ⟨g1, g2, ⟨k1, k2, k3, o, k4, k5, k6, k7, k8, k9⟩, g4, g5⟩ := h
  have hk : kp t < 12 := by
    have h1 := kp_lt t (by omega)
    have : kp t ≠ 12 := fun z => by have := h1.2.mp z; omega
    omega
  have kne : ∀ u, u = 6 ∨ u = 7 ∨ u = 8 → u ≠ t → kp u ≠ kp t := by
    have key : ∀ t, t < 12 → ∀ u, u < 12 → u ≠ t → kp u ≠ kp t := by decide +kernel
    intro u hu hne
    exact key t ht u (by omega) hne
  have bit : ∀ u, u = 6 ∨ u = 7 ∨ u = 8 → o.testBit (kp u) = s.2.2 u → (o ||| 2 ^ kp t).testBit (kp u) = (if t = 6 ∨ t = 7 ∨ t = 8 then (fun i => s.2.2 i || i == t) else s.2.2) u := by
    intro u hu hb
    by_cases z : u = t
    · subst z
      rw [if_pos hu, or_p1]
      show true = (s.2.2 u || (u == u))
      simp
    · rw [or_p2 (kne u hu z), hb]
      by_cases w : t = 6 ∨ t = 7 ∨ t = 8
      · rw [if_pos w]
        show s.2.2 u = (s.2.2 u || (u == t))
        have : (u == t) = false := by simpa using z
        rw [this, Bool.or_false]
      · rw [if_neg w]
  refine ⟨o, k4, k5, fun u hu => ?_, FrC_h FrC_57 g1, g2, ⟨k1, ctn_x (fun q h1 h2 => by rw [iI, if_neg (by have := g1.2.2.2; omega)]) k2, k3, o ||| 2 ^ kp t, by rw [rI, if_pos ⟨rfl, rfl⟩], Nat.or_lt_two_pow (n := 12) k5 (Nat.pow_lt_pow_right (by decide) hk), bit 6 (by omega) k6, bit 7 (by omega) k7, bit 8 (by omega) k8, by rw [rI, if_neg (by omega)]; exact k9.1, by rw [rI, if_neg (by omega)]; exact k9.2⟩, by rw [rI, if_neg (by omega)]; exact g4, g5⟩
  rcases hu with z | z | z <;> subst z
  · exact k6
  · exact k7
  · exact k8
theorem rml_s {t : Nat} (ht : t < 12) (h : rml s.1 t = true) : clw n B t s x = .inl (4, tP n B x) := by
  have ht' : t = 0 ∨ t = 1 ∨ t = 2 ∨ t = 3 ∨ t = 4 ∨ t = 5 ∨ t = 6 ∨ t = 7 ∨ t = 8 ∨ t = 9 ∨ t = 10 ∨ t = 11 := by omega
  unfold clw
  rcases ht' with z | z | z | z | z | z | z | z | z | z | z | z <;> subst z
  · exact if_pos (by simpa [rml] using h)
  · cases h
  · exact if_pos (by simpa [rml] using h)
  · exact if_pos (by simpa [rml] using h)
  · exact if_pos (by simpa [rml] using h)
  · exact if_pos (by simpa [rml] using h)
  · cases h
  · cases h
  · cases h
  · exact if_pos (by simpa [rml] using h)
  · exact if_pos (by simpa [rml] using h)
  · cases h
theorem CS_eta (h : CS X n B c (s.1, s.2.1, s.2.2) x μ) : CS X n B c s x μ := h
theorem c_cl40 {t : Nat} (ht : t < 12) (h : CS X n B c s (tN n B x) μ) (hk : TkC X n B x μ) (ho : t = 6 ∨ t = 7 ∨ t = 8 → s.2.2 t = false) : COut X n B c μ (f_X8_readClause_J40 (X + 57) (nI (kp t)) μ) (mkr n B (clw n B t s x)) := by
  have h1 := h.1.1
  have ok := h.2.1
  have oo := ok.1
  have hc := h.1.2.2.2
  have hT := tws_c h1 hc
  have k1 : gf_P 9 1 (X + 57) μ = some c := e_gfP (by rw [mk_57 h1]) h.2.2.1.1
  unfold f_X8_readClause_J40
  rw [c_rml ht hT (by rw [mk_57 h1]) k1 h.2.2.1.2.1 ok, ob]
  cases er : rml s.1 t with
  | true =>
    rw [if_neg (by decide), rml_s ht er]
    exact COut_b (c_flo (v := 4) h1 hk.2.1)
  | false =>
    obtain ⟨o, o1, o2, o3, o4⟩ := CS_once ht h
    have hkt : kp t < 32 := by have := kp_lt t (by omega); omega
    rw [if_pos (by rfl), rf_57 h1, ob, o1, b_one hkt, nI_or, wf_57 h1, ob]
    have fr : FrC X c μ (ms_I μ (X + 57) 2 (nI (o ||| 2 ^ kp t))) := FrC_57
    generalize ms_I μ (X + 57) 2 (nI (o ||| 2 ^ kp t)) = ν at o4 fr ⊢
    have g1 := o4.1.1
    have hT2 := tws_c g1 hc
    have k2 : gf_P 9 1 (X + 57) ν = some c := e_gfP (by rw [mk_57 g1]) o4.2.2.1.1
    refine COut_t fr ?_
    have ht' : t = 0 ∨ t = 1 ∨ t = 2 ∨ t = 3 ∨ t = 4 ∨ t = 5 ∨ t = 6 ∨ t = 7 ∨ t = 8 ∨ t = 9 ∨ t = 10 ∨ t = 11 := by omega
    unfold clw
    rcases ht' with z | z | z | z | z | z | z | z | z | z | z | z <;> subst z
    · rw [if_neg (by decide)] at o4
      rw [if_pos (by rfl), if_pos rfl, if_neg (by simpa [rml] using er)]
      exact COut_b (c_per o4 (by have : s.1 0 0 ≠ 8 := (by simpa [rml] using er); show s.1 0 0 < 8; omega))
    · rw [if_neg (by decide)] at o4
      rw [if_neg (by decide), if_pos (by rfl), if_neg (by decide), if_pos rfl]
      exact COut_b (c_dre o4)
    · rw [if_neg (by decide)] at o4
      rw [if_neg (by decide), if_neg (by decide), if_pos (by rfl), k2, ob, tc_p3 hT2, ob, if_neg (by decide), if_neg (by decide), if_pos rfl, if_neg (by simpa [rml] using er)]
      exact COut_b (c_fac o4 (by have : s.1 0 1 ≠ 12 := (by simpa [rml] using er); show s.1 0 1 < 12; omega))
    · rw [if_neg (by decide)] at o4
      rw [if_neg (by decide), if_neg (by decide), if_neg (by decide), if_pos (by rfl), if_neg (by decide), if_neg (by decide), if_neg (by decide), if_pos rfl, if_neg (by simpa [rml] using er)]
      exact COut_b (c_tal o4 (by have : s.1 0 2 ≠ 8 := (by simpa [rml] using er); show s.1 0 2 < 8; omega))
    · rw [if_neg (by decide)] at o4
      rw [if_neg (by decide), if_neg (by decide), if_neg (by decide), if_neg (by decide), if_pos (by rfl), k2, ob, tc_p5 hT2, ob, if_neg (by decide), if_neg (by decide), if_neg (by decide), if_neg (by decide), if_pos rfl, if_neg (by simpa [rml] using er)]
      exact COut_b (cl_nap o4 (by have : s.1 0 3 ≠ 8 := (by simpa [rml] using er); show s.1 0 3 < 8; omega))
    · rw [if_neg (by decide)] at o4
      rw [if_neg (by decide), if_neg (by decide), if_neg (by decide), if_neg (by decide), if_neg (by decide), if_pos (by rfl), if_neg (by decide), if_neg (by decide), if_neg (by decide), if_neg (by decide), if_neg (by decide), if_pos rfl, if_neg (by simpa [rml] using er)]
      exact COut_b (c_dul o4 (by have : s.1 0 6 ≠ 8 := (by simpa [rml] using er); show s.1 0 6 < 8; omega))
    · rw [if_pos (by decide)] at o4
      have os := ho (by decide)
      rw [show nI (kp 6) = (9 : Int32) from rfl]
      rw [if_neg (by decide), if_neg (by decide), if_neg (by decide), if_neg (by decide), if_neg (by decide), if_neg (by decide), if_neg (by decide), if_neg (by decide), if_neg (by decide)]
      rw [if_neg (by decide), if_neg (by decide), if_neg (by decide), if_neg (by decide), if_neg (by decide), if_neg (by decide), if_neg (by decide), if_neg (by decide), if_neg (by decide), if_neg (by decide), os, if_neg (by decide)]
      exact COut_b (c_set (t := 6) o4 (by decide))
    · rw [if_pos (by decide)] at o4
      have os := ho (by decide)
      rw [show nI (kp 7) = (11 : Int32) from rfl]
      rw [if_neg (by decide), if_neg (by decide), if_neg (by decide), if_neg (by decide), if_neg (by decide), if_neg (by decide), if_neg (by decide), if_neg (by decide), if_neg (by decide)]
      rw [if_neg (by decide), if_neg (by decide), if_neg (by decide), if_neg (by decide), if_neg (by decide), if_neg (by decide), if_neg (by decide), if_neg (by decide), if_neg (by decide), if_neg (by decide), os, if_neg (by decide)]
      exact COut_b (c_set (t := 7) o4 (by decide))
    · rw [if_pos (by decide)] at o4
      have os := ho (by decide)
      rw [show nI (kp 8) = (10 : Int32) from rfl]
      rw [if_neg (by decide), if_neg (by decide), if_neg (by decide), if_neg (by decide), if_neg (by decide), if_neg (by decide), if_neg (by decide), if_neg (by decide), if_neg (by decide)]
      rw [if_neg (by decide), if_neg (by decide), if_neg (by decide), if_neg (by decide), if_neg (by decide), if_neg (by decide), if_neg (by decide), if_neg (by decide), if_neg (by decide), if_neg (by decide), os, if_neg (by decide)]
      exact COut_b (c_set (t := 8) o4 (by decide))
    · rw [if_neg (by decide)] at o4
      rw [show nI (kp 9) = (6 : Int32) from rfl]
      rw [if_neg (by decide), if_neg (by decide), if_neg (by decide), if_neg (by decide), if_neg (by decide), if_neg (by decide), if_pos rfl]
      rw [if_neg (by decide), if_neg (by decide), if_neg (by decide), if_neg (by decide), if_neg (by decide), if_neg (by decide), if_pos rfl, if_neg (by simpa [rml] using er)]
      exact COut_b (c_wis (g := 0) o4 (by have : s.1 0 9 ≠ 8 := (by simpa [rml] using er); show s.1 0 9 < 8; omega) (by decide))
    · rw [if_neg (by decide)] at o4
      rw [show nI (kp 10) = (7 : Int32) from rfl]
      rw [if_neg (by decide), if_neg (by decide), if_neg (by decide), if_neg (by decide), if_neg (by decide), if_neg (by decide), if_neg (by decide), if_pos rfl]
      rw [if_neg (by decide), if_neg (by decide), if_neg (by decide), if_neg (by decide), if_neg (by decide), if_neg (by decide), if_neg (by decide), if_pos rfl, if_neg (by simpa [rml] using er)]
      exact COut_b (c_wis (g := 1) o4 (by have : s.1 0 9 ≠ 8 := (by simpa [rml] using er); show s.1 0 9 < 8; omega) (by decide))
    · rw [if_neg (by decide)] at o4
      rw [show nI (kp 11) = (8 : Int32) from rfl]
      rw [if_neg (by decide), if_neg (by decide), if_neg (by decide), if_neg (by decide), if_neg (by decide), if_neg (by decide), if_neg (by decide), if_neg (by decide), if_pos rfl]
      rw [if_neg (by decide), if_neg (by decide), if_neg (by decide), if_neg (by decide), if_neg (by decide), if_neg (by decide), if_neg (by decide), if_neg (by decide), if_pos rfl]
      exact COut_b (c_tra o4)
theorem c_cls (h : CS X n B c s (tN n B x) μ) (hk : TkC X n B x μ) (hx : x ≤ n) : COut X n B c μ (f_X8_readClause (X + 57) μ) (mkr n B (cls n B s x)) := by
  have h1 := h.1.1
  have kw := c_keyw (p := fun i => tk n B x == 1 && wEq B (tP n B x) (tN n B x - tP n B x) i) h1 (fun i hi => c_wd hi h hk hx)
  unfold f_X8_readClause cls
  rw [if_pos (by rw [mk_57 h1]), kw, ob]
  have bad : ff (fun i => tk n B x == 1 && wEq B (tP n B x) (tN n B x - tP n B x) i) 12 = none → COut X n B c μ (if oI (ff (fun i => tk n B x == 1 && wEq B (tP n B x) (tN n B x - tP n B x) i) 12) = -1 then (f_X8_fail (X + 57) 1 μ).bind fun x12 => if x12.1 = 0 ∨ x12.1 = 1 then some (x12.1, x12.2) else none else (f_X8_isOnce (oI (ff (fun i => tk n B x == 1 && wEq B (tP n B x) (tN n B x - tP n B x) i) 12)) μ).bind fun x17 => if x17 = 0 then f_X8_readClause_J40 (X + 57) (oI (ff (fun i => tk n B x == 1 && wEq B (tP n B x) (tN n B x - tP n B x) i) 12)) μ else (gf_I 9 2 (X + 57) μ).bind fun x24 => if ((x24 >>> (oI (ff (fun i => tk n B x == 1 && wEq B (tP n B x) (tN n B x - tP n B x) i) 12) &&& 31)) &&& (1 : Int32)) = 0 then f_X8_readClause_J40 (X + 57) (oI (ff (fun i => tk n B x == 1 && wEq B (tP n B x) (tN n B x - tP n B x) i) 12)) μ else (f_X8_fail (X + 57) 3 μ).bind fun x36 => if x36.1 = 0 ∨ x36.1 = 1 then some (x36.1, x36.2) else none) (.inl (1, tP n B x)) := by
    intro hn
    rw [hn, if_pos (show oI none = -1 from rfl)]
    exact COut_b (c_flo (v := 1) h1 hk.2.1)
  cases e : tQ n B x with
  | none =>
    refine bad (ff_none.mpr (fun l hl => ?_))
    by_cases e1 : tk n B x = 1
    · unfold tQ at e
      rw [if_pos e1] at e
      rw [kw_n e l (by omega), Bool.and_false]
    · have : (tk n B x == 1) = false := by simpa using e1
      rw [this]; rfl
  | some t =>
    obtain ⟨e1, e2, e3⟩ := tQ_lt e
    obtain ⟨k1, k2, k3⟩ := kw_c e3
    have ee : ff (fun i => tk n B x == 1 && wEq B (tP n B x) (tN n B x - tP n B x) i) 12 = ff (wEq B (tP n B x) (tN n B x - tP n B x)) 12 := ff_x (fun i hi => by
      have : (tk n B x == 1) = true := by simpa using e1
      rw [this, Bool.true_and])
    by_cases z : t = 12
    · rw [if_pos z] at k3
      subst z
      exact bad (ee.trans k3)
    · rw [if_neg z] at k3
      rw [ee, k3]
      have hkt := kp_lt t e2
      have hk12 : kp t ≠ 12 := fun w => z (hkt.2.mp w)
      rw [if_neg (show ¬ oI (some (kp t)) = -1 from neg1_ne (by omega))]
      show COut X n B c μ ((f_X8_isOnce (nI (kp t)) μ).bind _) (mkr n B (clw n B t s x))
      rw [c_once (by omega), ob]
      obtain ⟨o, o1, o2, o3, -⟩ := CS_once (t := t) (by omega) h
      have on : (decide (9 ≤ kp t) && decide (kp t ≤ 11)) = decide (t = 6 ∨ t = 7 ∨ t = 8) := by
        have key : ∀ t, t < 13 → (decide (9 ≤ kp t) && decide (kp t ≤ 11)) = decide (t = 6 ∨ t = 7 ∨ t = 8) := by decide +kernel
        exact key t e2
      rw [on]
      by_cases w : t = 6 ∨ t = 7 ∨ t = 8
      · rw [decide_eq_true w, if_neg (by decide), rf_57 h1, ob, o1]
        show COut X n B c μ (if ((nI o >>> (nI (kp t) &&& 31)) &&& (1 : Int32)) = 0 then _ else _) _
        rw [b_bit (by omega) (by omega), o3 t w]
        cases eo : s.2.2 t with
        | false =>
          rw [if_pos (by rfl)]
          exact c_cl40 (by omega) h hk (fun _ => eo)
        | true =>
          rw [if_neg (by decide)]
          have : clw n B t s x = .inl (3, tP n B x) := by
            unfold clw
            rw [if_neg (by omega), if_neg (by omega), if_neg (by omega), if_neg (by omega), if_neg (by omega), if_neg (by omega), if_neg (by omega), if_neg (by omega), if_neg (by omega), if_neg (by omega), if_pos eo]
          rw [this]
          exact COut_b (c_flo (v := 3) h1 hk.2.1)
      · rw [decide_eq_false w, if_pos (by rfl)]
        exact c_cl40 (by omega) h hk (fun z => absurd z w)
end CCL
