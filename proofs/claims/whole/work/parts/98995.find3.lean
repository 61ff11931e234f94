/-! ===== the class's census: what is missing is found ===== -/
section CEN
variable {X i c : Nat} {s : Sv} {μ ν ρ : Mm}
variable {Rw Ft nr sz fo : Nat} {Ml Ln : Nat → Nat}
def msb (T : Tn) (fm fo f : Nat) : Bool := (fm.testBit f && !fo.testBit f) && decide (f < T 0 1)
theorem msk_e {T : Tn} (ok : OkT T) {fm fo : Nat} (hf : fm < 4096) : (nI fm &&& (nI fo ^^^ (-1 : Int32))) &&& (((1 : Int32) <<< (nI (T 0 1) &&& 31)) - (1 : Int32)) = nI (bm (msb T fm fo) 12) := by
  have n12 := ok.1.2.1
  have hp : (2 : Nat) ^ T 0 1 ≤ 2 ^ 12 := Nat.pow_le_pow_right (by decide) n12
  have hp0 := Nat.two_pow_pos (T 0 1)
  rw [b_andn' (n := 12) (by decide) hf, b_one (by omega), show (1 : Int32) = nI 1 from rfl, pk_sub (by omega), nI_and]
  congr 1
  have e : 2 ^ T 0 1 - 1 = bm (fun f => decide (f < T 0 1)) 12 := bm_of (by omega) (fun i _ => Nat.testBit_two_pow_sub_one _ _)
  rw [e, bm_and]
  rfl
theorem z_turns {b : Nat → Bool} (h : IW X c s μ) (hb : ∀ f, b f = true → f < s.1 0 1 ∧ fo.testBit f = false) (hln : ∀ f, f < 12 → b f = true → (EN s.1).length ≤ Ln f) (z : ZI X s μ Rw Ft nr fo Ml Ln ν) : ∃ ρ, whl (f_X1_findComings_L92 (X + 66) (nI (bm b 12))) ((0 : Int32), ν) = some ρ ∧ ZI X s μ Rw Ft nr fo Ml Ln ρ ∧ Lq s.1 Ml b (EN s.1).length ρ ∧ ∀ q, X + 66 ≤ q → mm_I ρ q = mm_I ν q := by
  have ok := h.2.1.1
  have hl := EN_len ok
  have hpos : 0 < (EN s.1).length := by have := h.2.1.2.1; omega
  refine whl_i (body := f_X1_findComings_L92 (X + 66) (nI (bm b 12))) (EN s.1).length (fun k (st : Int32 × Mm) => ∃ ρ, st = (nI k, ρ) ∧ ZI X s μ Rw Ft nr fo Ml Ln ρ ∧ Lq s.1 Ml b k ρ ∧ ∀ q, X + 66 ≤ q → mm_I ρ q = mm_I ν q) (Q := fun ρ => ZI X s μ Rw Ft nr fo Ml Ln ρ ∧ Lq s.1 Ml b (EN s.1).length ρ ∧ ∀ q, X + 66 ≤ q → mm_I ρ q = mm_I ν q) (s0 := ((0 : Int32), ν)) ⟨ν, rfl, z, fun f _ _ k hk => by omega, fun _ _ => rfl⟩ ?_ ?_
  · rintro k st hk ⟨ρ, rfl, q1, q2, q3⟩
    have icr := IW_z h q1.1
    have g1 := icr.1.1
    obtain ⟨z1, z2, z3, z4, z5, z6, z8⟩ := q1.2.1
    have z5' := z5 (by omega)
    obtain ⟨t1, t2⟩ := sp_trw icr k hk
    have z2' : ZI X s μ Rw Ft nr fo Ml Ln (m_tr X (dr s.1 k) ρ) := ZI_tr q1
    obtain ⟨π, p1, p2, p3, p4⟩ := z_by ok hk hb hln z2' t2 (fun f hf hbf j hj => q2 f hf hbf j hj)
    refine ⟨(nI (k + 1), π), ?_, π, rfl, p2, p3, fun q hq => ?_⟩
    · simp only [f_X1_findComings_L92]
      rw [rf_66 g1, ob, z4.1, if_neg (by rw [nI_le_i (by omega) (by omega)]; omega), e_gfP (by rw [mk_66 g1]) z1.1, ob, e_len z1.2.2.1 ⟨by decide, by decide⟩, ob, if_neg (by rw [nI_le_i (by omega) (by omega)]; omega), rp_66_0 g1, ob, ob, e_gaI z1.2.2.1 (by omega) (by omega), ob, z5'.2 k hk, t1, ob, p1, ob, ob, nI_1]
    · rw [p4 q hq]
      unfold m_tr
      rw [iA, if_neg (by omega), iA, if_neg (by omega)]
      exact q3 q hq
  · rintro st ⟨ρ, rfl, q1, q2, q3⟩
    have icr := IW_z h q1.1
    have g1 := icr.1.1
    refine ⟨ρ, ?_, q1, q2, q3⟩
    simp only [f_X1_findComings_L92]
    rw [rf_66 g1, ob, q1.2.1.2.2.2.1.1, if_pos (nI_le (Nat.le_refl _) (by omega))]
theorem z_find {fm : Nat} (h : IW X c s μ) (hfm : fm < 4096) (z : Cz X s.1 Rw Ft nr sz fo Ml Ln μ) : ∃ ν Rw' Ft' nr' fo' Ml' Ln', f_X1_findComings (X + 66) (nI fm) μ = some ν ∧ ZI X s μ Rw' Ft' nr' fo' Ml' Ln' ν ∧ (∀ f, f < s.1 0 1 → fm.testBit f = true ∨ fo.testBit f = true → fo'.testBit f = true) ∧ (sz ≠ 0 → Rw' = Rw ∧ Ft' = Ft ∧ nr' = nr ∧ mm_I ν Ft = mm_I μ Ft) := by
  have ok := h.2.1.1
  have n12 := ok.1.2.1
  have hl := EN_len ok
  have h1 := h.1.1
  have hc : c = X + 21 ∨ c = X + 39 := by have := h.1.2.1; omega
  have hpos : 0 < (EN s.1).length := by have := h.2.1.2.1; omega
  obtain ⟨ν0, Rw0, Ft0, nr0, a1, a2, a3, a4, a5, a6⟩ := z_list h1 hc h.1.2.2.2 ok h.2.1.2.2.2.1 hpos z
  have zi0 : ZI X s μ Rw0 Ft0 nr0 fo Ml Ln ν0 := ⟨a2, a3, fun k h9 _ => a4 k h9, a5⟩
  have ic0 := IW_z h zi0.1
  have g0 := ic0.1.1
  have hT0 := tws_c g0 hc
  unfold f_X1_findComings
  rw [if_pos (by rw [mk_66 h1]), a1, ob, rf_66 g0, ob, a3.2.2.2.1.2.1, e_gfP (by rw [mk_66 g0]) ic0.1.2.2.2, ob, tc_p3 hT0, ob, ct_s4 hT0 ic0.2.1.2.2.1, ob, ob, msk_e ok hfm]
  have same : sz ≠ 0 → Rw0 = Rw ∧ Ft0 = Ft ∧ nr0 = nr ∧ mm_I ν0 Ft = mm_I μ Ft := fun q => by
    obtain ⟨e1, e2, e3, e4⟩ := a6 q
    exact ⟨e2, e3, e4, by rw [e1]⟩
  by_cases e0 : bm (msb s.1 fm fo) 12 = 0
  · rw [if_pos (by rw [e0]; rfl)]
    refine ⟨ν0, Rw0, Ft0, nr0, fo, Ml, Ln, rfl, zi0, fun f hf hor => ?_, same⟩
    rw [bm_z] at e0
    have := e0 f (by omega)
    unfold msb at this
    rw [decide_eq_true hf] at this
    rcases hor with y | y
    · rw [y] at this
      simpa using this
    · exact y
  · rw [if_neg (by rw [nI_z (bm_31 _ (by decide))]; exact e0)]
    have hb : ∀ f, msb s.1 fm fo f = true → f < s.1 0 1 ∧ fo.testBit f = false := fun f hf => by
      unfold msb at hf
      simp at hf
      exact ⟨hf.2, hf.1.2⟩
    obtain ⟨ν1, Ml1, Ln1, b1, b2, b3, b4⟩ := z_room (b := msb s.1 fm fo) h ok (fun f hf => (hb f hf).2) zi0
    obtain ⟨ν2, c1, c2, c3, c4⟩ := z_turns (b := msb s.1 fm fo) h hb b3 b2
    have ic2 := IW_z h c2.1
    have g2 := ic2.1.1
    rw [b1, ob]
    unfold f_X1_findComings_J90
    rw [c1, ob]
    unfold f_X1_findComings_J134
    rw [rf_66 g2, ob, c2.2.1.2.2.2.1.2.1, nI_or, wf_66 g2, ob]
    have h12 := fun g (hg : fo.testBit g = true) => cz_12 c2.2.1 hg
    obtain ⟨z1, z2, z3, z4, z5, z6, z8⟩ := c2.2.1
    refine ⟨_, Rw0, Ft0, nr0, fo ||| bm (msb s.1 fm fo) 12, Ml1, Ln1, rfl, ⟨FrZ_t c2.1 (FrZ_I (by omega)), ⟨z1, z2, z3, ⟨by rw [rI, if_neg (by omega)]; exact z4.1, by rw [rI, if_pos ⟨rfl, rfl⟩], z4.2.2.1, Nat.or_lt_two_pow z4.2.2.2 (bm_lt _ 12)⟩, fun y => ⟨(z5 y).1, fun k hk => ?_⟩, fun f hf => ?_, z8⟩, fun k h9 h10 => ?_, ?_⟩, fun f hf hor => ?_, fun q => ?_⟩
    · rw [iI, if_neg (by omega)]; exact (z5 y).2 k hk
    · rw [Nat.testBit_or, bm_t] at hf
      cases e1 : fo.testBit f with
      | true => exact z6 f e1
      | false =>
        rw [e1, Bool.false_or] at hf
        simp at hf
        exact ⟨⟨by omega, (hb f hf.2).1⟩, b3 f hf.1 hf.2, fun k hk => c3 f hf.1 hf.2 k hk⟩
    · rw [rI, if_neg (by omega)]; exact c2.2.2.1 k h9 h10
    · rw [iI, if_neg (by omega)]; exact c2.2.2.2
    · rw [Nat.testBit_or, bm_t, decide_eq_true (show f < 12 by omega)]
      cases e1 : fo.testBit f with
      | true => rfl
      | false =>
        rw [e1] at hor
        have : fm.testBit f = true := by rcases hor with y | y; exact y; cases y
        unfold msb
        rw [e1, this, decide_eq_true hf]; rfl
    · obtain ⟨e1, e2, e3, e4⟩ := same q
      refine ⟨e1, e2, e3, ?_⟩
      have hFt := z1.2.2.2.2.2.2.2.1
      rw [← e2, iI, if_neg (by omega), c4 _ (by omega), b4, e2]
      exact e4
end CEN
