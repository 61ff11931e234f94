/-! ===== a town's text: the class's clauses, third part ===== -/
section CCL
variable {X n x c : Nat} {B : Nat → Nat} {s : Drf} {μ ν ρ : Mm}
variable {D : Tn} {a b d e f g : Nat}
theorem c_ipm (h : TwS c (mm_K μ) (mm_P μ)) : f_X7_isPerson c (-1) μ = some 0 := by
  unfold f_X7_isPerson f_X7_isPerson_J16
  rw [if_pos (by rw [h.1]), if_pos (by decide)]
theorem c_ip (h : TwS c (mm_K μ) (mm_P μ)) (ht : CTn c D μ) (ha : a < D 0 0) (hn : D 0 0 ≤ 8) : f_X7_isPerson c (nI a) μ = some 1 := by
  rw [e_isPerson h.1 ht.1.1 (by omega)]
  unfold bz
  rw [if_pos (inR_nI ha (by omega))]
theorem c_tra (h : CS X n B c s x μ) : COut X n B c μ (f_X8_readTrade (X + 57) μ) (mkr n B (sTra n B s x)) := by
  have h1 := h.1.1
  have n8 := h.2.1.1.1
  have t10 : s.1 0 10 < 256 := h.2.1.1.2.2.2.2.2.2.2.2.2.2.2.1
  have hc := h.1.2.2.2
  obtain ⟨A1, A2⟩ := c_nmd h
  unfold f_X8_readTrade sTra
  rw [if_pos (by rw [mk_57 h1])]
  cases ea : rdN n B s x with
  | inl e =>
    obtain ⟨ν, a1, a2, a3⟩ := A1 e ea
    have g1 := FrC_sh a2 h1
    rw [a1, ob, e_gfP (by rw [mk_57 g1]) (by rw [a2.1]; exact h.2.2.1.1), ob, c_ipm (tws_c g1 hc), ob, if_pos rfl]
    exact COl rfl a2 a3
  | inr a =>
    obtain ⟨ν, a1, a2, a3, a4⟩ := A2 a ea
    have ha := (rdN_r ea).2.2
    have g1 := a3.1.1
    have hT := tws_c g1 hc
    have k1 : gf_P 9 1 (X + 57) ν = some c := e_gfP (by rw [mk_57 g1]) a3.2.2.1.1
    rw [a1, ob, k1, ob, c_ip hT a3.2.2.1.2.1 ha n8, ob, if_neg (by decide), ob, ct_td hT a3.2.2.1.2.1, ob, b_bit (by omega) (by omega)]
    show COut X n B c μ _ (mkr n B (if (s.1 0 10).testBit a = true then _ else _))
    by_cases e3 : (s.1 0 10).testBit a = true
    · rw [if_pos e3, e3, if_neg (by decide)]
      exact COut_t a2 (COut_b (c_flo (v := 3) g1 a4))
    · have e3' : (s.1 0 10).testBit a = false := by simpa using e3
      rw [if_neg e3, e3', if_pos (by rfl)]
      obtain ⟨C1, C2⟩ := c_bt (lo := 0) (hi := 99) a3 (by decide) (by decide)
      cases ec : rdB n B 0 99 (tN n B x) with
      | inl e =>
        obtain ⟨ν3, c1, c2, c3⟩ := C1 e ec
        rw [show f_X8_readBetween (X + 57) 0 99 ν = _ from c1, ob, if_pos rfl]
        exact COl rfl (FrC_t a2 c2) c3
      | inr v =>
        obtain ⟨ν3, c1, c2, c3, c4⟩ := C2 v ec
        have hv := rdB_r ec
        have g3 := c3.1.1
        have hT3 := tws_c g3 hc
        have k3 : gf_P 9 1 (X + 57) ν3 = some c := e_gfP (by rw [mk_57 g3]) c3.2.2.1.1
        have k4 : gf_P 9 1 (X + 57) (ms_I ν3 (c + 3) a (nI v)) = some c := k3
        have t4 : CTn c (up s.1 16 a v) (ms_I ν3 (c + 3) a (nI v)) := ctn_16 c3.2.2.1.2.1
        have k5 : gf_I 8 12 c (ms_I ν3 (c + 3) a (nI v)) = some (nI (s.1 0 10)) := ct_td (T := up s.1 16 a v) hT3 t4
        rw [show f_X8_readBetween (X + 57) 0 99 ν = _ from c1, ob, if_neg (neg1_ne (by omega)), k3, ob, tc_p2 hT3, ob, tc_b3 hT3 _ (by omega), ob, k4, ob, k5, ob, b_one (by omega), nI_or, tc_w (μ := ms_I ν3 (c + 3) a (nI v)) hT3, ob]
        have fr : FrC X c ν3 (ms_I (ms_I ν3 (c + 3) a (nI v)) c 12 (nI (s.1 0 10 ||| 2 ^ a))) := FrC_t (FrC_I (by omega)) (FrC_I (by omega))
        refine COut_t (FrC_t a2 (FrC_t c2 fr)) (COut_b (c_mk (CS_up c3 fr (ok_tra h.2.1 ha (by omega)) (ctn_i (by omega) t4) ?_ rfl rfl ?_)))
        · rw [iI, if_neg (by omega), iI, if_neg (by omega)]
        · rw [rI, if_neg (by omega), rI, if_neg (by omega)]
theorem c_dre (h : CS X n B c s x μ) : COut X n B c μ (f_X8_readDreams (X + 57) μ) (mkr n B (sDre n B s x)) := by
  have h1 := h.1.1
  have n8 := h.2.1.1.1
  have ok := h.2.1
  have t11 : s.1 0 11 < 256 := ok.1.2.2.2.2.2.2.2.2.2.2.2.2.1
  have hc := h.1.2.2.2
  obtain ⟨A1, A2⟩ := c_nmd h
  unfold f_X8_readDreams f_X8_readDreams_J108 sDre
  rw [if_pos (by rw [mk_57 h1])]
  cases ea : rdN n B s x with
  | inl e =>
    obtain ⟨ν, a1, a2, a3⟩ := A1 e ea
    have g1 := FrC_sh a2 h1
    rw [a1, ob, e_gfP (by rw [mk_57 g1]) (by rw [a2.1]; exact h.2.2.1.1), ob, c_ipm (tws_c g1 hc), ob, if_pos rfl]
    exact COl rfl a2 a3
  | inr a =>
    obtain ⟨ν, a1, a2, a3, a4⟩ := A2 a ea
    have ha := (rdN_r ea).2.2
    have g1 := a3.1.1
    have hT := tws_c g1 hc
    have k1 : gf_P 9 1 (X + 57) ν = some c := e_gfP (by rw [mk_57 g1]) a3.2.2.1.1
    rw [a1, ob, k1, ob, c_ip hT a3.2.2.1.2.1 ha n8, ob, if_neg (by decide), ob, e_isAlone hT a3.2.2.1.2.1 ok (by omega), ob]
    show COut X n B c μ _ (mkr n B (if (s.1 0 7).testBit a = true then _ else _))
    by_cases e3 : (s.1 0 7).testBit a = true
    · rw [if_pos e3, e3, if_neg (by decide)]
      exact COut_t a2 (COut_b (c_flo (v := 5) g1 a4))
    · have e3' : (s.1 0 7).testBit a = false := by simpa using e3
      rw [if_neg e3, e3', if_pos (by rfl), ob, tc_p1 hT, ob, tc_a2 hT (by omega), ob, a3.2.2.1.2.1.2.2.2.2.2.2.2.1 a (by omega)]
      by_cases e4 : s.1 1 a = 0
      · rw [if_pos e4, if_pos e4, if_pos rfl]
        obtain ⟨B1, B2⟩ := c_nmd a3
        cases eb' : rdN n B s (tN n B x) with
        | inl e =>
          obtain ⟨ν2, b1, b2, b3⟩ := B1 e eb'
          have g2 := FrC_sh b2 g1
          rw [b1, ob, e_gfP (by rw [mk_57 g2]) (by rw [b2.1]; exact a3.2.2.1.1), ob, c_ipm (tws_c g2 hc), ob, if_pos rfl]
          exact COl rfl (FrC_t a2 b2) b3
        | inr b =>
          obtain ⟨ν2, b1, b2, b3, b4⟩ := B2 b eb'
          have hb := (rdN_r eb').2.2
          have g2 := b3.1.1
          have hT2 := tws_c g2 hc
          have k2 : gf_P 9 1 (X + 57) ν2 = some c := e_gfP (by rw [mk_57 g2]) b3.2.2.1.1
          rw [b1, ob, k2, ob, c_ip hT2 b3.2.2.1.2.1 hb n8, ob, if_neg (by decide), ob, e_isAlone hT2 b3.2.2.1.2.1 ok (by omega), ob]
          show COut X n B c μ _ (mkr n B (if (s.1 0 7).testBit b = true then _ else _))
          by_cases e5 : (s.1 0 7).testBit b = true
          · rw [if_pos e5, e5, if_neg (by decide)]
            exact COut_t (FrC_t a2 b2) (COut_b (c_flo (v := 5) g2 b4))
          · have e5' : (s.1 0 7).testBit b = false := by simpa using e5
            rw [if_neg e5, e5', if_pos (by rfl)]
            dsimp only
            by_cases e6 : b = a
            · rw [if_pos (Or.inl e6), if_pos (by rw [e6])]
              exact COut_t (FrC_t a2 b2) (COut_b (c_flo (v := 3) g2 b4))
            · rw [if_neg (by rw [nI_eq_i (by omega) (by omega)]; exact e6), ob, ct_dr hT2 b3.2.2.1.2.1, ob, b_bit (by omega) (by omega)]
              by_cases e7 : (s.1 0 11).testBit b = true
              · rw [if_pos (Or.inr e7), e7, if_neg (by decide)]
                exact COut_t (FrC_t a2 b2) (COut_b (c_flo (v := 3) g2 b4))
              · have e7' : (s.1 0 11).testBit b = false := by simpa using e7
                have t4 : CTn c (up s.1 1 a (b + 1)) (ms_I ν2 (c + 2) a (nI b)) := ctn_1 b3.2.2.1.2.1
                have k4 : gf_P 9 1 (X + 57) (ms_I ν2 (c + 2) a (nI b)) = some c := k2
                have k5 : gf_I 8 11 c (ms_I ν2 (c + 2) a (nI b)) = some (nI (s.1 0 11)) := ct_dr (T := up s.1 1 a (b + 1)) hT2 t4
                have hne : ¬ (b = a ∨ (s.1 0 11).testBit b = true) := fun z => z.elim e6 e7
                rw [if_neg hne, e7', if_pos (show nI false.toNat = 0 from rfl), ob, tc_p1 hT2, ob, tc_b2 hT2 _ (by omega), ob, k4, ob, k5, ob, b_one (by omega), nI_or, tc_w (μ := ms_I ν2 (c + 2) a (nI b)) hT2, ob]
                have fr : FrC X c ν2 (ms_I (ms_I ν2 (c + 2) a (nI b)) c 11 (nI (s.1 0 11 ||| 2 ^ b))) := FrC_t (FrC_I (by omega)) (FrC_I (by omega))
                refine COut_t (FrC_t a2 (FrC_t b2 fr)) (COut_b (c_mk (CS_up b3 fr (ok_dre ok ha hb e3' e5' e4 e6 e7') (ctn_i (by omega) t4) ?_ rfl rfl ?_)))
                · rw [iI, if_neg (by omega), iI, if_neg (by omega)]
                · rw [rI, if_neg (by omega), rI, if_neg (by omega)]
      · rw [if_neg e4, if_neg e4, if_neg (neg1_ne (by have := (ok.2.1 a (by omega)).1; omega))]
        exact COut_t a2 (COut_b (c_flo (v := 3) g1 a4))
theorem tQ_12 : (tk n B x == 1 && wEq B (tP n B x) (tN n B x - tP n B x) 12) = decide (tQ n B x = some 12) := by
  by_cases e1 : tk n B x = 1
  · have : (tk n B x == 1) = true := by simpa using e1
    rw [this, Bool.true_and]
    unfold tQ
    rw [if_pos e1]
    cases ek : kwd B (tP n B x) (tN n B x - tP n B x) with
    | none => rw [kw_n ek 12 (by decide)]; rfl
    | some t =>
      obtain ⟨k1, k2, k3⟩ := kw_c ek
      cases ew : wEq B (tP n B x) (tN n B x - tP n B x) 12 with
      | true =>
        have := wEq_u (by decide) (kp_lt t k1).1 ew k2
        have := (kp_lt t k1).2.mp this.symm
        rw [this]; rfl
      | false =>
        symm
        apply decide_eq_false
        intro z
        cases z
        rw [show kp 12 = 12 from rfl, ew] at k2
        cases k2
  · have : (tk n B x == 1) = false := by simpa using e1
    rw [this]
    unfold tQ
    rw [if_neg e1]; rfl
theorem c_wd {i : Nat} (hi : i < 13) (h : CS X n B c s (tN n B x) μ) (hk : TkC X n B x μ) (hx : x ≤ n) : f_X6_isWord (X + 3) (mm_S μ i) μ = some (nI (tk n B x == 1 && wEq B (tP n B x) (tN n B x - tP n B x) i).toNat) :=
  c_isWord hi h.1.2.1 h.1.1 h.1.2.2.1 hk.1 tk_le hk.2.1 (fun e => ⟨(hk.2.2.1 e).1, by have h1 := tP_p (B := B) hx; have h2 := (tE_ge (B := B) h1.2).1; have h3 := tN_le (B := B) hx; unfold tN at h3 ⊢; unfold tP at h1 h2 ⊢; omega⟩)
theorem ctn_L {w : Int64} {k : Nat} (h : CTn c D μ) : CTn c D (ms_L μ (c + 1) k w) := h
theorem c_per (h : CS X n B c s x μ) (hn : s.1 0 0 < 8) : COut X n B c μ (f_X8_readPerson (X + 57) μ) (mkr n B (sPer n B s x)) := by
  have h1 := h.1.1
  have ok := h.2.1
  have t7 : s.1 0 7 < 2 ^ 8 := Nat.lt_of_lt_of_le ok.1.2.2.2.2.2.2.2.2.1 (Nat.pow_le_pow_right (by decide) (by omega))
  have hc := h.1.2.2.2
  obtain ⟨ν, a1, a2, a3, a4, a5, a6, a7⟩ := c_stp h
  have g1 := a3.1.1
  have hT := tws_c g1 hc
  have k1 : gf_P 9 1 (X + 57) ν = some c := e_gfP (by rw [mk_57 g1]) a3.2.2.1.1
  unfold f_X8_readPerson f_X8_readPerson_J128 sPer
  rw [if_pos (by rw [mk_57 h1]), rp_57_0 h1, ob, a1, ob, rp_57_0 g1, ob, rf_3 g1, ob, a4]
  by_cases e1 : tk n B x = 1
  · rw [if_pos e1]
    rw [if_pos (show nI (tk n B x) = 1 by rw [e1]; rfl), k1, ob, ob, rl_3 g1, ob, (a6 e1).2, c_po hT ok a3.2.2.1, ob]
    cases e2 : nmd s (tW n B x) with
    | some p =>
      have hp := (ff_some.mp e2).1
      rw [if_neg (show ¬ (some p : Option Nat) = none by simp), if_neg (show ¬ oI (some p) = -1 from neg1_ne (by omega))]
      exact COut_t a2 (COut_b (c_flo (v := 3) g1 a5))
    | none =>
      rw [if_pos rfl, if_pos (show oI none = -1 from rfl), ob, ob, rl_3 g1, ob, (a6 e1).2]
      have kad : f_X7_addPerson c (tW n B x) ν = some (ms_I (ms_L ν (c + 1) (s.1 0 0) (tW n B x)) c 9 (nI (s.1 0 0 + 1))) := by
        have z9 : gf_I 8 9 c (ms_L ν (c + 1) (s.1 0 0) (tW n B x)) = some (nI (s.1 0 0)) := ct_n hT a3.2.2.1.2.1
        unfold f_X7_addPerson
        rw [if_pos (by rw [hT.1]), ct_n hT a3.2.2.1.2.1, ob, if_neg (by rw [show (8 : Int32) = nI 8 from rfl, nI_le_i (by omega) (by omega)]; omega), tc_p0 hT, ob, ob, tc_nw hT _ hn, ob, z9, ob, nI_1, tc_w (μ := ms_L ν (c + 1) (s.1 0 0) (tW n B x)) hT, ob]
      have fr : FrC X c ν (ms_I (ms_L ν (c + 1) (s.1 0 0) (tW n B x)) c 9 (nI (s.1 0 0 + 1))) := FrC_t FrC_L (FrC_I (by omega))
      have hcs : CS X n B c (up s.1 0 0 (s.1 0 0 + 1), u1 s.2.1 (s.1 0 0) (tW n B x), s.2.2) (tN n B x) (ms_I (ms_L ν (c + 1) (s.1 0 0) (tW n B x)) c 9 (nI (s.1 0 0 + 1))) := by
        obtain ⟨i1, i2, ⟨i3, i4, i5, o, i6⟩, i7, i8⟩ := a3
        refine ⟨FrC_h fr i1, ok_per ok hn false, ⟨i3, ctn_i (Or.inl ⟨rfl, rfl⟩) i4, fun k hk => ?_, o, ?_⟩, ?_, i8⟩
        · replace hk : k < s.1 0 0 + 1 := hk
          show mm_L (ms_L ν (c + 1) (s.1 0 0) (tW n B x)) (c + 1) k = u1 s.2.1 (s.1 0 0) (tW n B x) k
          rw [rL]
          by_cases z : k = s.1 0 0
          · rw [if_pos ⟨rfl, z⟩, z, u1_s]
          · rw [if_neg (fun w => z w.2), u1_n _ _ z]
            exact i5 k (by omega)
        · rw [iI, if_neg (by omega)]; exact i6
        · rw [rI, if_neg (by omega)]; exact i7
      rw [kad, ob]
      generalize ms_I (ms_L ν (c + 1) (s.1 0 0) (tW n B x)) c 9 (nI (s.1 0 0 + 1)) = ν2 at fr hcs ⊢
      obtain ⟨ν3, b1, b2, b3, b4⟩ := c_stp hcs
      have g2 := hcs.1.1
      have g3 := b3.1.1
      have hT3 := tws_c g3 hc
      have hx1 := h.2.2.2.2
      have k3 : gf_P 9 1 (X + 57) ν3 = some c := e_gfP (by rw [mk_57 g3]) b3.2.2.1.1
      rw [rp_57_0 g2, ob, b1, ob, rp_57_0 g3, ob, c_wd (by decide) b3 b4 (tN_le hx1), ob, tQ_12]
      by_cases e4 : tQ n B (tN n B x) = some 12
      · rw [decide_eq_true e4, if_pos e4, if_neg (by decide), k3, ob, ct_al hT3 b3.2.2.1.2.1, ob, ob, ct_n hT3 b3.2.2.1.2.1, ob]
        have e5 : nI ((up s.1 0 0 (s.1 0 0 + 1)) 0 0) - 1 = nI (s.1 0 0) := by
          rw [up_t, show (1 : Int32) = nI 1 from rfl, pk_sub (by omega)]
          rfl
        dsimp only
        rw [e5, b_one (by omega), nI_or, tc_w hT3, ob]
        have fr4 : FrC X c ν3 (ms_I ν3 c 10 (nI (s.1 0 7 ||| 2 ^ s.1 0 0))) := FrC_I (by omega)
        have := c_mk (CS_up b3 fr4 (ok_per ok hn true) (ctn_i (k := 10) (j := 7) (by omega) b3.2.2.1.2.1) (by rw [iI, if_neg (by omega)]) rfl rfl (by rw [rI, if_neg (by omega)]))
        exact COut_t (FrC_t a2 (FrC_t fr (FrC_t b2 fr4))) (COut_b this)
      · rw [decide_eq_false e4, if_neg e4, if_pos (by rfl), ob, rf_3 g3, ob, b4.1]
        show COut X n B c μ _ (if tk n B (tN n B x) = 3 then .inr (_, tN n B (tN n B x)) else .inl (1, tP n B (tN n B x)))
        by_cases e5 : tk n B (tN n B x) = 3
        · rw [if_pos e5, if_pos (show nI (tk n B (tN n B x)) = 3 by rw [e5]; rfl)]
          exact COr rfl (FrC_t a2 (FrC_t fr b2)) b3
        · obtain ⟨π, q1, q2, q3⟩ := c_fl (c := c) (v := 1) g3 b4.2.1
          replace q1 : f_X8_fail (X + 57) 1 ν3 = some (0, π) := q1
          rw [if_neg e5, if_neg (by rw [show (3 : Int32) = nI 3 from rfl, nI_eq_i tk_31 (by decide)]; exact e5), q1, ob, if_pos rfl]
          exact COl rfl (FrC_t a2 (FrC_t fr (FrC_t b2 q2))) q3
  · rw [if_neg e1, if_neg (by rw [show (1 : Int32) = nI 1 from rfl, nI_eq_i tk_31 (by decide)]; exact e1)]
    exact COut_t a2 (COut_b (c_flo (v := 1) g1 a5))
end CCL
