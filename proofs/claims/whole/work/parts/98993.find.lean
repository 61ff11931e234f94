/-! ===== the class's census: turnings are listed, comings found ===== -/
theorem sg_u {g : Nat → Nat} {k v : Nat} : ∀ {n : Nat}, k < n → sg (u1 g k v) n + g k = sg g n + v := by
  intro n
  induction n with
  | zero => intro h; omega
  | succ n ih =>
    intro h
    show sg (u1 g k v) n + u1 g k v n + g k = sg g n + g n + v
    by_cases e : n = k
    · have : ∀ m, m ≤ k → sg (u1 g k v) m = sg g m := by
        intro m
        induction m with
        | zero => intro _; rfl
        | succ m ihm =>
          intro hm
          show sg (u1 g k v) m + u1 g k v m = sg g m + g m
          rw [ihm (by omega), u1_n _ _ (by omega)]
      rw [e, this k (Nat.le_refl _), u1_s]
      omega
    · have := ih (by omega)
      rw [u1_n _ _ e]
      omega
section CEN
variable {X i c : Nat} {s : Sv} {T : Tn} {A : Nat → Nat → Nat} {μ ν ρ : Mm}
variable {Rw Ft nr sz fo : Nat} {Ml Ln : Nat → Nat}
theorem cz_x (hP : mm_P ν = mm_P μ) (ht : tl ν = tl μ) (h66 : mm_I ν (X + 66) 9 = mm_I μ (X + 66) 9 ∧ mm_I ν (X + 66) 10 = mm_I μ (X + 66) 10) (hI : ∀ q, q = X + 82 ∨ X + 135 ≤ q → q ≠ Ft → mm_I ν q = mm_I μ q) (hL : ∀ q, (X + 68 ≤ q ∧ q < X + 80) ∨ X + 135 ≤ q → mm_L ν q = mm_L μ q) (h : Cz X T Rw Ft nr sz fo Ml Ln μ) : Cz X T Rw Ft nr sz fo Ml Ln ν := by
  obtain ⟨h1, h2, h3, h4, h5, h6, h8⟩ := h
  have hf12 : ∀ f, fo.testBit f = true → f < 12 := fun f hf => by
    by_cases e : f < 12
    · exact e
    · have : fo < 2 ^ f := Nat.lt_of_lt_of_le h4.2.2.2 (Nat.pow_le_pow_right (by decide) (by omega))
      rw [Nat.testBit_lt_two_pow this] at hf
      cases hf
  refine ⟨by rw [hP, tl_K ht, tl_N ht]; exact h1, by rw [hP, tl_K ht, tl_N ht]; exact h2, h3, by rw [h66.1, h66.2]; exact h4, ?_, fun f hf => ?_, by rw [tl_N ht, tl_Z ht]; exact h8⟩
  · rw [hI Rw (by omega) h1.2.2.2.2.2.1]; exact h5
  · obtain ⟨g1, g2, g3⟩ := h6 f hf
    have := (h2 f (hf12 f hf)).2.2.2.1
    have := hf12 f hf
    exact ⟨g1, g2, fun k hk => by rw [hL (Ml f) (by omega)]; exact g3 k hk⟩
theorem cz_12 (h : Cz X T Rw Ft nr sz fo Ml Ln μ) {f : Nat} (hf : fo.testBit f = true) : f < 12 := by
  by_cases e : f < 12
  · exact e
  · have : fo < 2 ^ f := Nat.lt_of_lt_of_le h.2.2.2.1.2.2.2 (Nat.pow_le_pow_right (by decide) (by omega))
    rw [Nat.testBit_lt_two_pow this] at hf
    cases hf
theorem cz_L {f k : Nat} {v : Int64} (hf : f < 12) (hn : fo.testBit f = false) (h : Cz X T Rw Ft nr sz fo Ml Ln μ) : Cz X T Rw Ft nr sz fo Ml Ln (ms_L μ (Ml f) k v) := by
  have h12 := fun g (hg : fo.testBit g = true) => cz_12 h hg
  obtain ⟨h1, h2, h3, h4, h5, h6, h8⟩ := h
  refine ⟨h1, h2, h3, h4, h5, fun g hg => ?_, h8⟩
  obtain ⟨g1, g2, g3⟩ := h6 g hg
  refine ⟨g1, g2, fun j hj => ?_⟩
  rw [rL, if_neg (fun z => ?_)]
  · exact g3 j hj
  · have := h3 g f (h12 g hg) hf z.1
    rw [this, hn] at hg
    cases hg
/-- rows are listed where there is room -/
theorem z_fill (h1 : Sh X μ) (hc : c = X + 21 ∨ c = X + 39) (h5 : mm_P μ (X + 66) 5 = some c) (ok : OkT T) (hu : TuP c T μ) (hn : (EN T).length ≤ nr) (z : Cz X T Rw Ft nr 0 fo Ml Ln μ) : ∃ ν, f_X1_listTurnings_J53 (X + 66) (nI (EN T).length) μ = some ν ∧ FrZ X μ ν ∧ Cz X T Rw Ft nr (EN T).length fo Ml Ln ν ∧ (∀ k, k ≠ 9 → mm_I ν (X + 66) k = mm_I μ (X + 66) k) ∧ mm_I ν (X + 81) = mm_I μ (X + 81) := by
  have hT := tws_c h1 hc
  obtain ⟨z1, z2, z3, z4, z5, z6, z8⟩ := z
  have hfill := e_fillRows (a := Rw) (R := nr) hT ok hu (by omega) z1.2.2.1 (by omega) hn
  unfold f_X1_listTurnings_J53
  have g2 : Sh X (ms_A μ Rw (pl (mm_I μ Rw) 0 ((EN T).map (fun x => nI (cr T x))))) := h1
  rw [e_gfP (by rw [mk_66 h1]) h5, ob, tc_p8 hT, ob, e_gfP (by rw [mk_66 h1]) z1.1, ob, hfill, ob, wf_66 g2, ob]
  refine ⟨_, rfl, FrZ_t (FrZ_A (by omega)) (FrZ_I (by omega)), ⟨z1, z2, z3, ⟨by rw [rI, if_pos ⟨rfl, rfl⟩], ?_, Or.inr rfl, z4.2.2.2⟩, fun _ => ⟨hn, fun k hk => ?_⟩, fun f hf => absurd rfl (z6 f hf).1.1, z8⟩, fun k hk => ?_, ?_⟩
  · rw [rI, if_neg (by omega), iA, if_neg (by omega)]; exact z4.2.1
  · rw [iI, if_neg (by omega), iA, if_pos rfl]
    have := pl_get (old := mm_I μ Rw) (s := 0) (i := k) (l := (EN T).map (fun x => nI (cr T x))) (by rw [List.length_map]; exact hk)
    rw [Nat.zero_add] at this
    rw [this, List.getElem_map, rwT_e hk]
  · rw [rI, if_neg (fun q => hk q.2), iA, if_neg (by omega)]
  · rw [iI, if_neg (by omega), iA, if_neg (by omega)]
theorem z_list (h1 : Sh X μ) (hc : c = X + 21 ∨ c = X + 39) (h5 : mm_P μ (X + 66) 5 = some c) (ok : OkT T) (hu : TuP c T μ) (hn : 0 < (EN T).length) (z : Cz X T Rw Ft nr sz fo Ml Ln μ) : ∃ ν Rw' Ft' nr', f_X1_listTurnings (X + 66) μ = some ν ∧ FrZ X μ ν ∧ Cz X T Rw' Ft' nr' (EN T).length fo Ml Ln ν ∧ (∀ k, k ≠ 9 → mm_I ν (X + 66) k = mm_I μ (X + 66) k) ∧ mm_I ν (X + 81) = mm_I μ (X + 81) ∧ (sz ≠ 0 → ν = μ ∧ Rw' = Rw ∧ Ft' = Ft ∧ nr' = nr) := by
  have hT := tws_c h1 hc
  have z0 := z
  obtain ⟨z1, z2, z3, z4, z5, z6, z8⟩ := z
  have hl := EN_len ok
  have h66 := mk_66 h1
  unfold f_X1_listTurnings
  rw [if_pos (by rw [h66]), e_gfP (by rw [h66]) h5, ob, tc_p8 hT, ob, e_howMany hT hu, ob, rf_66 h1, ob, z4.1]
  by_cases e0 : sz = 0
  · rw [if_neg (by rw [nI_eq_i (by omega) (by omega)]; omega), e_gfP (by rw [h66]) z1.1, ob, e_len z1.2.2.1 ⟨by decide, by decide⟩, ob]
    rw [e0] at z0
    by_cases e1 : (EN T).length ≤ nr
    · rw [if_pos (by rw [nI_le_i (by omega) (by omega)]; exact e1)]
      obtain ⟨ν, a1, a2, a3, a4, a5⟩ := z_fill h1 hc h5 ok hu e1 z0
      exact ⟨ν, Rw, Ft, nr, a1, a2, a3, a4, a5, fun q => absurd e0 q⟩
    · obtain ⟨r1, r2⟩ := rmf_b (had := nr) hl
      obtain ⟨p1, p2⟩ := phi_r (had := nr) (need := (EN T).length) (by omega) hl
      have N135 := z8.1
      rw [if_neg (by rw [nI_le_i (by omega) (by omega)]; exact e1), ob, e_len z1.2.2.1 ⟨by decide, by decide⟩, ob, e_rmf (by omega) hl, ob, e_nwA (by omega), ob]
      have fr1 : FrZ X μ (mn_C μ 20 (rmf nr (EN T).length)) := FrZ_N N135
      have g1 := FrZ_sh fr1 N135 h1
      rw [e_pfP (by rw [mk_66 g1]), ob]
      have fr2 : FrZ X μ (ms_P (mn_C μ 20 (rmf nr (EN T).length)) (X + 66) 6 (some (mm_N μ))) := FrZ_t fr1 (FrZ_P (by omega))
      rw [e_nwA (by omega), ob]
      have N2 : X + 135 ≤ mm_N (ms_P (mn_C μ 20 (rmf nr (EN T).length)) (X + 66) 6 (some (mm_N μ))) := by
        show X + 135 ≤ mm_N μ + 1
        omega
      have fr3 : FrZ X μ (mn_C (ms_P (mn_C μ 20 (rmf nr (EN T).length)) (X + 66) 6 (some (mm_N μ))) 20 (rmf nr (EN T).length)) := FrZ_t fr2 (FrZ_N N2)
      have g3 := FrZ_sh fr3 N135 h1
      rw [e_pfP (by rw [mk_66 g3]), ob]
      have eN : mm_N (ms_P (mn_C μ 20 (rmf nr (EN T).length)) (X + 66) 6 (some (mm_N μ))) = mm_N μ + 1 := rfl
      rw [eN]
      have fr4 : FrZ X μ (ms_P (mn_C (ms_P (mn_C μ 20 (rmf nr (EN T).length)) (X + 66) 6 (some (mm_N μ))) 20 (rmf nr (EN T).length)) (X + 66) 7 (some (mm_N μ + 1))) := FrZ_t fr3 (FrZ_P (by omega))
      have g4 := FrZ_sh fr4 N135 h1
      have zz : Cz X T (mm_N μ) (mm_N μ + 1) (rmf nr (EN T).length) 0 fo Ml Ln (ms_P (mn_C (ms_P (mn_C μ 20 (rmf nr (EN T).length)) (X + 66) 6 (some (mm_N μ))) 20 (rmf nr (EN T).length)) (X + 66) 7 (some (mm_N μ + 1))) := by
        refine ⟨⟨?_, ?_, ?_, ?_, r2, by omega, by omega, by omega, ?_, ?_⟩, fun f hf => ?_, z3, ⟨?_, ?_, Or.inl rfl, z4.2.2.2⟩, fun q => absurd rfl q, fun f hf => absurd e0 (z6 f hf).1.1, ?_, ?_, ?_⟩
        · rw [rP, if_neg (by omega), cN_P, if_neg (by rw [eN]; omega), rP, if_pos ⟨rfl, rfl⟩]
        · rw [rP, if_pos ⟨rfl, rfl⟩]
        · show mm_K (mn_C (ms_P (mn_C μ 20 (rmf nr (EN T).length)) (X + 66) 6 (some (mm_N μ))) 20 (rmf nr (EN T).length)) (mm_N μ) = _
          rw [cN_K, if_neg (by rw [eN]; omega)]
          show mm_K (mn_C μ 20 (rmf nr (EN T).length)) (mm_N μ) = _
          rw [cN_K, if_pos rfl]
        · show mm_K (mn_C (ms_P (mn_C μ 20 (rmf nr (EN T).length)) (X + 66) 6 (some (mm_N μ))) 20 (rmf nr (EN T).length)) (mm_N μ + 1) = _
          rw [cN_K, if_pos (by rw [eN])]
        · show mm_N μ < mm_N μ + 1 + 1
          omega
        · show mm_N μ + 1 < mm_N μ + 1 + 1
          omega
        · obtain ⟨q1, q2, q3, q4, q5⟩ := z2 f hf
          refine ⟨?_, ?_, q3, q4, ?_⟩
          · rw [rP, if_neg (by omega), cN_P, if_neg (by rw [eN]; omega), rP, if_neg (by omega), cN_P, if_neg (by omega)]; exact q1
          · rw [fr4.1.2.2 _ q5]; exact q2
          · show Ml f < mm_N μ + 1 + 1
            omega
        · show mm_I (mn_C (ms_P (mn_C μ 20 (rmf nr (EN T).length)) (X + 66) 6 (some (mm_N μ))) 20 (rmf nr (EN T).length)) (X + 66) 9 = _
          rw [cN_I, if_neg (by rw [eN]; omega), iP, cN_I, if_neg (by omega), z4.1, e0]
        · show mm_I (mn_C (ms_P (mn_C μ 20 (rmf nr (EN T).length)) (X + 66) 6 (some (mm_N μ))) 20 (rmf nr (EN T).length)) (X + 66) 10 = _
          rw [cN_I, if_neg (by rw [eN]; omega), iP, cN_I, if_neg (by omega)]
          exact z4.2.1
        · show X + 135 ≤ mm_N μ + 1 + 1
          omega
        · show mm_N μ + 1 + 1 ≤ _
          omega
        · show mm_Z (mn_C (ms_P (mn_C μ 20 (rmf nr (EN T).length)) (X + 66) 6 (some (mm_N μ))) 20 (rmf nr (EN T).length)) ≤ _
          rw [cN_Z (by decide)]
          show mm_Z (mn_C μ 20 (rmf nr (EN T).length)) + _ ≤ _
          rw [cN_Z (by decide)]
          omega
      have u4 : TuP c T (ms_P (mn_C (ms_P (mn_C μ 20 (rmf nr (EN T).length)) (X + 66) 6 (some (mm_N μ))) 20 (rmf nr (EN T).length)) (X + 66) 7 (some (mm_N μ + 1))) := tuP_x (fun q _ _ => fr4.2.2.1 q (by omega) (by omega) (by omega) (by omega) (by omega) (by omega) (by omega) (by omega) (by omega)) hu
      have p5 : mm_P (ms_P (mn_C (ms_P (mn_C μ 20 (rmf nr (EN T).length)) (X + 66) 6 (some (mm_N μ))) 20 (rmf nr (EN T).length)) (X + 66) 7 (some (mm_N μ + 1))) (X + 66) 5 = some c := by rw [fr4.2.1 _ _ (by omega) (by omega) (by omega)]; exact h5
      have i66 : ∀ k, mm_I (ms_P (mn_C (ms_P (mn_C μ 20 (rmf nr (EN T).length)) (X + 66) 6 (some (mm_N μ))) 20 (rmf nr (EN T).length)) (X + 66) 7 (some (mm_N μ + 1))) (X + 66) k = mm_I μ (X + 66) k := fun k => by
        show mm_I (mn_C (ms_P (mn_C μ 20 (rmf nr (EN T).length)) (X + 66) 6 (some (mm_N μ))) 20 (rmf nr (EN T).length)) (X + 66) k = _
        rw [cN_I, if_neg (by rw [eN]; omega), iP, cN_I, if_neg (by omega)]
      have i81 : mm_I (ms_P (mn_C (ms_P (mn_C μ 20 (rmf nr (EN T).length)) (X + 66) 6 (some (mm_N μ))) 20 (rmf nr (EN T).length)) (X + 66) 7 (some (mm_N μ + 1))) (X + 81) = mm_I μ (X + 81) := by
        show mm_I (mn_C (ms_P (mn_C μ 20 (rmf nr (EN T).length)) (X + 66) 6 (some (mm_N μ))) 20 (rmf nr (EN T).length)) (X + 81) = _
        rw [cN_I, if_neg (by rw [eN]; omega), iP, cN_I, if_neg (by omega)]
      generalize ms_P (mn_C (ms_P (mn_C μ 20 (rmf nr (EN T).length)) (X + 66) 6 (some (mm_N μ))) 20 (rmf nr (EN T).length)) (X + 66) 7 (some (mm_N μ + 1)) = μ4 at fr4 g4 zz u4 p5 i66 i81 ⊢
      obtain ⟨ν, a1, a2, a3, a4, a5⟩ := z_fill g4 hc p5 ok u4 r1 zz
      exact ⟨ν, _, _, _, a1, FrZ_t fr4 a2, a3, fun k hk => (a4 k hk).trans (i66 k), a5.trans i81, fun q => absurd e0 q⟩
  · have es : sz = (EN T).length := by omega
    rw [if_pos (by rw [es])]
    rw [es] at z0
    exact ⟨μ, Rw, Ft, nr, rfl, FrZ_r, z0, fun _ _ => rfl, rfl, fun _ => ⟨rfl, rfl, rfl, rfl⟩⟩
end CEN
