/-! ===== a town's text: the class's clauses ===== -/
def m_ad (μ : Mm) (q n : Nat) (v0 v1 v2 v3 : Int32) : Mm := ms_I (ms_A μ (q + 1) (u1 (u1 (u1 (u1 (mm_I μ (q + 1)) (4 * n) v0) (4 * n + 1) v1) (4 * n + 2) v2) (4 * n + 3) v3)) q 1 (nI (n + 1))
section CCL
variable {X n x c : Nat} {B : Nat → Nat} {s : Drf} {μ ν ρ : Mm}
variable {q m : Nat} {v0 v1 v2 v3 : Int32}
theorem mA_f {b : Nat} (h1 : b ≠ q) (h2 : b ≠ q + 1) : mm_I (m_ad μ q m v0 v1 v2 v3) b = mm_I μ b := by
  unfold m_ad
  rw [iI, if_neg h1, iA, if_neg h2]
theorem mA_s : mm_I (m_ad μ q m v0 v1 v2 v3) q 1 = nI (m + 1) := by
  unfold m_ad
  rw [rI, if_pos ⟨rfl, rfl⟩]
theorem mA_c : mm_I (m_ad μ q m v0 v1 v2 v3) (q + 1) = u1 (u1 (u1 (u1 (mm_I μ (q + 1)) (4 * m) v0) (4 * m + 1) v1) (4 * m + 2) v2) (4 * m + 3) v3 := by
  unfold m_ad
  rw [iI, if_neg (by omega), iA, if_pos rfl]
theorem mA_0 : mm_I (m_ad μ q m v0 v1 v2 v3) (q + 1) (4 * m) = v0 := by
  rw [mA_c, u1_n _ _ (by omega), u1_n _ _ (by omega), u1_n _ _ (by omega), u1_s]
theorem mA_1 : mm_I (m_ad μ q m v0 v1 v2 v3) (q + 1) (4 * m + 1) = v1 := by
  rw [mA_c, u1_n _ _ (by omega), u1_n _ _ (by omega), u1_s]
theorem mA_2 : mm_I (m_ad μ q m v0 v1 v2 v3) (q + 1) (4 * m + 2) = v2 := by
  rw [mA_c, u1_n _ _ (by omega), u1_s]
theorem mA_3 : mm_I (m_ad μ q m v0 v1 v2 v3) (q + 1) (4 * m + 3) = v3 := by
  rw [mA_c, u1_s]
theorem mA_o {k : Nat} (h : k < 4 * m) : mm_I (m_ad μ q m v0 v1 v2 v3) (q + 1) k = mm_I μ (q + 1) k := by
  rw [mA_c, u1_n _ _ (by omega), u1_n _ _ (by omega), u1_n _ _ (by omega), u1_n _ _ (by omega)]
theorem mA_fr (h : c ≤ q ∧ q + 1 < c + 18) : FrC X c μ (m_ad μ q m v0 v1 v2 v3) := FrC_t (FrC_A (by omega)) (FrC_I (by omega))
variable {D : Tn} {a b d e f g : Nat}
theorem ctn_fac (h : CTn c D μ) : CTn c (aFac D a d) (m_ad μ (c + 4) (D 0 1) (nI a) (nI d) 0 0) := by
  obtain ⟨h1, h2, h3, h4, h5, h6, h7, h8, h9⟩ := h
  refine ⟨by rw [mA_f (by omega) (by omega)]; exact h1, ⟨mA_s, by rw [mA_f (by omega) (by omega)]; exact h2.2.1, by rw [mA_f (by omega) (by omega)]; exact h2.2.2.1, by rw [mA_f (by omega) (by omega)]; exact h2.2.2.2.1, by rw [mA_f (by omega) (by omega)]; exact h2.2.2.2.2⟩, fun i hi => ?_, by rw [mA_f (by omega) (by omega)]; exact h4, by rw [mA_f (by omega) (by omega)]; exact h5, by rw [mA_f (by omega) (by omega)]; exact h6, by rw [mA_f (by omega) (by omega)]; exact h7, by rw [mA_f (by omega) (by omega)]; exact h8, by rw [mA_f (by omega) (by omega)]; exact h9⟩
  replace hi : i < D 0 1 + 1 := hi
  have e1 : aFac D a d 2 i = if i = D 0 1 then a else D 2 i := up_s D 2 (D 0 1) a i
  have e2 : aFac D a d 3 i = if i = D 0 1 then d else D 3 i := up_s (up D 2 (D 0 1) a) 3 (D 0 1) d i
  rw [e1, e2]
  by_cases z : i = D 0 1
  · rw [if_pos z, if_pos z, z]
    exact ⟨mA_0, mA_1⟩
  · rw [if_neg z, if_neg z, show c + 5 = c + 4 + 1 from rfl, mA_o (by omega), mA_o (by omega)]
    exact h3 i (by omega)
theorem ctn_nap (h : CTn c D μ) : CTn c (aNap D a d) (m_ad μ (c + 8) (D 0 3) (nI a) (nI d) 0 0) := by
  obtain ⟨h1, h2, h3, h4, h5, h6, h7, h8, h9⟩ := h
  refine ⟨by rw [mA_f (by omega) (by omega)]; exact h1, ⟨by rw [mA_f (by omega) (by omega)]; exact h2.1, by rw [mA_f (by omega) (by omega)]; exact h2.2.1, mA_s, by rw [mA_f (by omega) (by omega)]; exact h2.2.2.2.1, by rw [mA_f (by omega) (by omega)]; exact h2.2.2.2.2⟩, by rw [mA_f (by omega) (by omega)]; exact h3, by rw [mA_f (by omega) (by omega)]; exact h4, fun i hi => ?_, by rw [mA_f (by omega) (by omega)]; exact h6, by rw [mA_f (by omega) (by omega)]; exact h7, by rw [mA_f (by omega) (by omega)]; exact h8, by rw [mA_f (by omega) (by omega)]; exact h9⟩
  replace hi : i < D 0 3 + 1 := hi
  have e1 : aNap D a d 7 i = if i = D 0 3 then a else D 7 i := up_s D 7 (D 0 3) a i
  have e2 : aNap D a d 8 i = if i = D 0 3 then d else D 8 i := up_s (up D 7 (D 0 3) a) 8 (D 0 3) d i
  rw [e1, e2]
  by_cases z : i = D 0 3
  · rw [if_pos z, if_pos z, z]
    exact ⟨mA_0, mA_1⟩
  · rw [if_neg z, if_neg z, show c + 9 = c + 8 + 1 from rfl, mA_o (by omega), mA_o (by omega)]
    exact h5 i (by omega)
theorem ctn_tal (h : CTn c D μ) : CTn c (aTal D a b e) (m_ad μ (c + 6) (D 0 2) (nI a) (nI b) (nI e) 0) := by
  obtain ⟨h1, h2, h3, h4, h5, h6, h7, h8, h9⟩ := h
  refine ⟨by rw [mA_f (by omega) (by omega)]; exact h1, ⟨by rw [mA_f (by omega) (by omega)]; exact h2.1, mA_s, by rw [mA_f (by omega) (by omega)]; exact h2.2.2.1, by rw [mA_f (by omega) (by omega)]; exact h2.2.2.2.1, by rw [mA_f (by omega) (by omega)]; exact h2.2.2.2.2⟩, by rw [mA_f (by omega) (by omega)]; exact h3, fun i hi => ?_, by rw [mA_f (by omega) (by omega)]; exact h5, by rw [mA_f (by omega) (by omega)]; exact h6, by rw [mA_f (by omega) (by omega)]; exact h7, by rw [mA_f (by omega) (by omega)]; exact h8, by rw [mA_f (by omega) (by omega)]; exact h9⟩
  replace hi : i < D 0 2 + 1 := hi
  have e1 : aTal D a b e 4 i = if i = D 0 2 then a else D 4 i := up_s D 4 (D 0 2) a i
  have e2 : aTal D a b e 5 i = if i = D 0 2 then b else D 5 i := up_s (up D 4 (D 0 2) a) 5 (D 0 2) b i
  have e3 : aTal D a b e 6 i = if i = D 0 2 then e else D 6 i := up_s (up (up D 4 (D 0 2) a) 5 (D 0 2) b) 6 (D 0 2) e i
  rw [e1, e2, e3]
  by_cases z : i = D 0 2
  · rw [if_pos z, if_pos z, if_pos z, z]
    exact ⟨mA_0, mA_1, mA_2⟩
  · rw [if_neg z, if_neg z, if_neg z, show c + 7 = c + 6 + 1 from rfl, mA_o (by omega), mA_o (by omega), mA_o (by omega)]
    exact h4 i (by omega)
theorem ctn_dul (h : CTn c D μ) : CTn c (aDul D a d e) (m_ad μ (c + 10) (D 0 6) (nI a) (nI d) (nI e) 0) := by
  obtain ⟨h1, h2, h3, h4, h5, h6, h7, h8, h9⟩ := h
  refine ⟨by rw [mA_f (by omega) (by omega)]; exact h1, ⟨by rw [mA_f (by omega) (by omega)]; exact h2.1, by rw [mA_f (by omega) (by omega)]; exact h2.2.1, by rw [mA_f (by omega) (by omega)]; exact h2.2.2.1, mA_s, by rw [mA_f (by omega) (by omega)]; exact h2.2.2.2.2⟩, by rw [mA_f (by omega) (by omega)]; exact h3, by rw [mA_f (by omega) (by omega)]; exact h4, by rw [mA_f (by omega) (by omega)]; exact h5, fun i hi => ?_, by rw [mA_f (by omega) (by omega)]; exact h7, by rw [mA_f (by omega) (by omega)]; exact h8, by rw [mA_f (by omega) (by omega)]; exact h9⟩
  replace hi : i < D 0 6 + 1 := hi
  have e1 : aDul D a d e 9 i = if i = D 0 6 then a else D 9 i := up_s D 9 (D 0 6) a i
  have e2 : aDul D a d e 10 i = if i = D 0 6 then d else D 10 i := up_s (up D 9 (D 0 6) a) 10 (D 0 6) d i
  have e3 : aDul D a d e 11 i = if i = D 0 6 then e else D 11 i := up_s (up (up D 9 (D 0 6) a) 10 (D 0 6) d) 11 (D 0 6) e i
  rw [e1, e2, e3]
  by_cases z : i = D 0 6
  · rw [if_pos z, if_pos z, if_pos z, z]
    exact ⟨mA_0, mA_1, mA_2⟩
  · rw [if_neg z, if_neg z, if_neg z, show c + 11 = c + 10 + 1 from rfl, mA_o (by omega), mA_o (by omega), mA_o (by omega)]
    exact h6 i (by omega)
theorem ctn_wis (h : CTn c D μ) : CTn c (aWis D g a f d) (m_ad μ (c + 12) (D 0 9) (nI (1 - g)) (nI a) (nI f) (nI d)) := by
  obtain ⟨h1, h2, h3, h4, h5, h6, h7, h8, h9⟩ := h
  refine ⟨by rw [mA_f (by omega) (by omega)]; exact h1, ⟨by rw [mA_f (by omega) (by omega)]; exact h2.1, by rw [mA_f (by omega) (by omega)]; exact h2.2.1, by rw [mA_f (by omega) (by omega)]; exact h2.2.2.1, by rw [mA_f (by omega) (by omega)]; exact h2.2.2.2.1, mA_s⟩, by rw [mA_f (by omega) (by omega)]; exact h3, by rw [mA_f (by omega) (by omega)]; exact h4, by rw [mA_f (by omega) (by omega)]; exact h5, by rw [mA_f (by omega) (by omega)]; exact h6, fun i hi => ?_, by rw [mA_f (by omega) (by omega)]; exact h8, by rw [mA_f (by omega) (by omega)]; exact h9⟩
  replace hi : i < D 0 9 + 1 := hi
  have e1 : aWis D g a f d 12 i = if i = D 0 9 then a else D 12 i := up_s D 12 (D 0 9) a i
  have e2 : aWis D g a f d 13 i = if i = D 0 9 then f else D 13 i := up_s (up D 12 (D 0 9) a) 13 (D 0 9) f i
  have e3 : aWis D g a f d 14 i = if i = D 0 9 then d else D 14 i := up_s (up (up D 12 (D 0 9) a) 13 (D 0 9) f) 14 (D 0 9) d i
  have e4 : aWis D g a f d 15 i = if i = D 0 9 then g else D 15 i := up_s (up (up (up D 12 (D 0 9) a) 13 (D 0 9) f) 14 (D 0 9) d) 15 (D 0 9) g i
  rw [e1, e2, e3, e4]
  by_cases z : i = D 0 9
  · rw [if_pos z, if_pos z, if_pos z, if_pos z, z]
    exact ⟨mA_0, mA_1, mA_2, mA_3⟩
  · rw [if_neg z, if_neg z, if_neg z, if_neg z, show c + 13 = c + 12 + 1 from rfl, mA_o (by omega), mA_o (by omega), mA_o (by omega), mA_o (by omega)]
    exact h7 i (by omega)
theorem CS_up (h : CS X n B c s x μ) (f : FrC X c μ ν) (ok : OkT D) (ht : CTn c D ν) (h2 : mm_I ν (X + 57) = mm_I μ (X + 57)) (hL : mm_L ν = mm_L μ) (h0 : D 0 0 = s.1 0 0) (h3 : mm_I ν (X + 3) 1 = mm_I μ (X + 3) 1) : CS X n B c (D, s.2) x ν := by
  obtain ⟨g1, g2, ⟨k1, k2, k3, o, k4⟩, g4, g5⟩ := h
  exact ⟨FrC_h f g1, ok, ⟨by rw [f.1]; exact k1, ht, fun k hk => by rw [hL]; exact k3 k (by rw [← h0]; exact hk), o, by rw [h2]; exact k4⟩, by rw [h3]; exact g4, g5⟩
theorem c_tal (h : CS X n B c s x μ) (hn : s.1 0 2 < 8) : COut X n B c μ (f_X8_readTalk (X + 57) μ) (mkr n B (sTal n B s x)) := by
  have h1 := h.1.1
  have n8 := h.2.1.1.1
  have hc := h.1.2.2.2
  obtain ⟨A1, A2⟩ := c_nmd h
  unfold f_X8_readTalk sTal
  rw [if_pos (by rw [mk_57 h1])]
  cases ea : rdN n B s x with
  | inl e =>
    obtain ⟨ν, a1, a2, a3⟩ := A1 e ea
    rw [a1, ob, if_pos rfl]
    exact COl rfl a2 a3
  | inr a =>
    obtain ⟨ν, a1, a2, a3, a4⟩ := A2 a ea
    have ha := (rdN_r ea).2.2
    rw [a1, ob, if_neg (neg1_ne (by omega))]
    obtain ⟨B1, B2⟩ := c_nmd a3
    show COut X n B c μ _ (mkr n B (eb (rdN n B s (tN n B x)) _))
    cases eb' : rdN n B s (tN n B x) with
    | inl e =>
      obtain ⟨ν2, b1, b2, b3⟩ := B1 e eb'
      rw [b1, ob, if_pos rfl]
      exact COl rfl (FrC_t a2 b2) b3
    | inr b =>
      obtain ⟨ν2, b1, b2, b3, b4⟩ := B2 b eb'
      have hb := (rdN_r eb').2.2
      rw [b1, ob, if_neg (neg1_ne (by omega))]
      dsimp only
      show COut X n B c μ _ (mkr n B (if b = a then _ else _))
      by_cases e3 : b = a
      · rw [if_pos e3, if_pos (by rw [e3])]
        exact COut_t (FrC_t a2 b2) (COut_b (c_flo (v := 3) b3.1.1 b4))
      · rw [if_neg e3, if_neg (by rw [nI_eq_i (by omega) (by omega)]; exact e3)]
        obtain ⟨C1, C2⟩ := c_bt (lo := 1) (hi := 28) b3 (by decide) (by decide)
        cases ec : rdB n B 1 28 (tN n B (tN n B x)) with
        | inl e =>
          obtain ⟨ν3, c1, c2, c3⟩ := C1 e ec
          rw [show f_X8_readBetween (X + 57) 1 28 ν2 = _ from c1, ob, if_pos rfl]
          exact COl rfl (FrC_t a2 (FrC_t b2 c2)) c3
        | inr v =>
          obtain ⟨ν3, c1, c2, c3, c4⟩ := C2 v ec
          have hv := rdB_r ec
          have g1 := c3.1.1
          have hT := tws_c g1 hc
          rw [show f_X8_readBetween (X + 57) 1 28 ν2 = _ from c1, ob, if_neg (neg1_ne (by omega)), e_gfP (by rw [mk_57 g1]) c3.2.2.1.1, ob, tc_p4 hT, ob, e_rowAdd (tc_r6 hT) c3.2.2.1.2.1.2.1.2.1 hn (by decide), ob]
          refine COut_t (FrC_t a2 (FrC_t b2 (FrC_t c2 (mA_fr (q := c + 6) (by omega))))) (COut_b (c_mk (CS_up c3 (mA_fr (q := c + 6) (by omega)) (ok_tal h.2.1 hn ha hb e3 hv.2.2) (ctn_tal c3.2.2.1.2.1) ?_ rfl rfl ?_)))
          · rw [mA_f (by omega) (by omega)]
          · rw [mA_f (by omega) (by omega)]
end CCL
