/-! ===== the loop of the law ===== -/
section LAW
variable {b L : Nat} {xs : Nat → Int32} {X i c : Nat} {s : Sv} {μ ν : Mm}
theorem e_gs {j : Nat} (hK : mm_K ν b = (19, L)) (hI : mm_I ν b = xs) (hj : j < L) (hL : L ≤ 3072) : gs_I b (nI j) ν = some (xs j) := by
  unfold gs_I
  rw [hK, if_pos ⟨rfl, by rw [nI_toInt (by omega)]; omega, by rw [nI_toInt (by omega)]; show (j : Int) < (L : Int); omega⟩, nI_clamp (by omega), hI]
theorem lg_s (a : Int64) : lg_cmp a a = 0 := by
  unfold lg_cmp
  rw [if_neg (by exact Int64.lt_irrefl), if_pos rfl]
theorem j_1398 {j : Nat} : f_L_law_J1398 b X (X + 90) (nI j) ν = some (.inl (nI (j + 6), ν)) := by
  unfold f_L_law_J1398
  rw [ob, show nI j + (6 : Int32) = nI (j + 6) from nI_add j 6]
theorem inv_up (h : Inv b L xs X i μ) : Inv b L xs X (i + 1) μ := by
  obtain ⟨h0, c, s, hC, hR⟩ := h
  exact ⟨h0, c, s, IC_up hC, hR⟩
theorem l_step {j : Nat} (hL : L ≤ 3072) (hj : j + 6 ≤ L) (hi : i < 1000) (hS : HS μ) (hv : Inv b L xs X i μ) : ∃ μ2, f_L_law_L18 b X (X + 90) (nI j, μ) = some (.inl (nI (j + 6), μ2)) ∧ Inv b L xs X (i + 1) μ2 := by
  have up := inv_up hv
  obtain ⟨h0, c, s, hC, hR⟩ := hv
  have G0 : gs_I b (nI j) μ = some (xs j) := e_gs h0.1 h0.2.1 (by omega) hL
  have G1 : ∀ ν, mm_K ν b = (19, L) ∧ mm_I ν b = xs → gs_I b (nI j + (1 : Int32)) ν = some (xs (j + 1)) := fun ν h => by
    rw [show nI j + (1 : Int32) = nI (j + 1) from nI_add j 1]; exact e_gs h.1 h.2 (by omega) hL
  have G2 : ∀ ν, mm_K ν b = (19, L) ∧ mm_I ν b = xs → gs_I b (nI j + (2 : Int32)) ν = some (xs (j + 2)) := fun ν h => by
    rw [show nI j + (2 : Int32) = nI (j + 2) from nI_add j 2]; exact e_gs h.1 h.2 (by omega) hL
  have G3 : ∀ ν, mm_K ν b = (19, L) ∧ mm_I ν b = xs → gs_I b (nI j + (3 : Int32)) ν = some (xs (j + 3)) := fun ν h => by
    rw [show nI j + (3 : Int32) = nI (j + 3) from nI_add j 3]; exact e_gs h.1 h.2 (by omega) hL
  have G4 : ∀ ν, mm_K ν b = (19, L) ∧ mm_I ν b = xs → gs_I b (nI j + (4 : Int32)) ν = some (xs (j + 4)) := fun ν h => by
    rw [show nI j + (4 : Int32) = nI (j + 4) from nI_add j 4]; exact e_gs h.1 h.2 (by omega) hL
  have G5 : ∀ ν, mm_K ν b = (19, L) ∧ mm_I ν b = xs → gs_I b (nI j + (5 : Int32)) ν = some (xs (j + 5)) := fun ν h => by
    rw [show nI j + (5 : Int32) = nI (j + 5) from nI_add j 5]; exact e_gs h.1 h.2 (by omega) hL
  have hb : mm_K μ b = (19, L) ∧ mm_I μ b = xs := ⟨h0.1, h0.2.1⟩
  have gl : gs_len b μ = some (nI L) := by
    unfold gs_len
    rw [h0.1, if_pos rfl]
  unfold f_L_law_L18
  rw [show gs_len b (nI j, μ).2 = some (nI L) from gl, ob, if_neg (by rw [show (6 : Int32) = nI 6 from rfl, pk_sub (by omega), nI_lt_i (by omega) (by omega)]; omega), show gs_I b (nI j, μ).1 (nI j, μ).2 = some (xs j) from G0, ob]
  dsimp only
  by_cases e0 : (xs j &&& (63 : Int32)) = 0
  · rw [if_pos e0]
    obtain ⟨r, μ1, μ2, h1, h2, h3, h4⟩ := k_feed (xs (j + 1)) (xs (j + 2)) (xs (j + 3)) (xs (j + 4)) (xs (j + 5)) h0 hC hR
    refine ⟨μ2, ?_, h3⟩
    rw [G1 μ hb, ob, G2 μ hb, ob, G3 μ hb, ob, G4 μ hb, ob, G5 μ hb, ob, h1, ob, G1 μ1 h4, ob, G2 μ1 h4, ob, G3 μ1 h4, ob, G4 μ1 h4, ob, G5 μ1 h4, ob, h2, ob, if_pos rfl, j_1398]
  rw [if_neg e0]
  by_cases e1 : (xs j &&& (63 : Int32)) = 1
  · rw [if_pos e1]
    obtain ⟨r, μ1, μ2, h1, h2, h3, h4⟩ := k_end (xs (j + 1)) h0 hC hR
    refine ⟨μ2, ?_, h3⟩
    rw [G1 μ hb, ob, h1, ob, G1 μ1 h4, ob, h2, ob, if_pos rfl, j_1398]
  rw [if_neg e1]
  by_cases e2 : (xs j &&& (63 : Int32)) = 2
  · rw [if_pos e2]
    obtain ⟨r, μ1, μ2, h1, h2, h3, h4⟩ := k_town h0 hS hC hR
    refine ⟨μ2, ?_, h3⟩
    rw [h1, ob, h2, ob, if_pos rfl, j_1398]
  rw [if_neg e2]
  by_cases e3 : (xs j &&& (63 : Int32)) = 3
  · rw [if_pos e3]
    obtain ⟨r, h1, h2⟩ := k_fault (xs (j + 1)) hC hR
    refine ⟨μ, ?_, up⟩
    rw [G1 μ hb, ob, h1, ob, ob, h2, ob, if_pos rfl, j_1398]
  rw [if_neg e3]
  by_cases e4 : (xs j &&& (63 : Int32)) = 4
  · rw [if_pos e4]
    obtain ⟨r, h1, h2⟩ := k_told (xs (j + 1)) hC hR
    refine ⟨μ, ?_, up⟩
    rw [G1 μ hb, ob, h1, ob, ob, h2, ob, if_pos rfl, j_1398]
  rw [if_neg e4]
  by_cases e5 : (xs j &&& (63 : Int32)) = 5
  · rw [if_pos e5]
    obtain ⟨r, h1, h2⟩ := k_turnings  hC hR
    refine ⟨μ, ?_, up⟩
    rw [h1, ob, h2, ob, if_pos rfl, j_1398]
  rw [if_neg e5]
  by_cases e6 : (xs j &&& (63 : Int32)) = 6
  · rw [if_pos e6]
    obtain ⟨r, μ1, μ2, h1, h2, h3, h4⟩ := k_turn (xs (j + 1)) h0 hC hR
    refine ⟨μ2, ?_, h3⟩
    rw [G1 μ hb, ob, h1, ob, G1 μ1 h4, ob, h2, ob, if_pos rfl, j_1398]
  rw [if_neg e6]
  by_cases e7 : (xs j &&& (63 : Int32)) = 7
  · rw [if_pos e7]
    obtain ⟨r, h1, h2⟩ := k_dreams (xs (j + 1)) hC hR
    refine ⟨μ, ?_, up⟩
    rw [G1 μ hb, ob, h1, ob, ob, h2, ob, if_pos rfl, j_1398]
  rw [if_neg e7]
  by_cases e8 : (xs j &&& (63 : Int32)) = 8
  · rw [if_pos e8]
    obtain ⟨r, μ1, μ2, h1, h2, h3, h4⟩ := k_number h0 hC hR
    refine ⟨μ2, ?_, h3⟩
    rw [h1, ob, h2, ob, if_pos rfl, j_1398]
  rw [if_neg e8]
  by_cases e9 : (xs j &&& (63 : Int32)) = 9
  · rw [if_pos e9]
    obtain ⟨r, μ1, μ2, h1, h2, h3, h4⟩ := k_knows (xs (j + 1)) (xs (j + 2)) (xs (j + 3)) h0 hC hR
    refine ⟨μ2, ?_, h3⟩
    rw [G1 μ hb, ob, G2 μ hb, ob, G3 μ hb, ob, h1, ob, G1 μ1 h4, ob, G2 μ1 h4, ob, G3 μ1 h4, ob, h2, ob, if_pos rfl, j_1398]
  rw [if_neg e9]
  by_cases e10 : (xs j &&& (63 : Int32)) = 10
  · rw [if_pos e10]
    obtain ⟨r, μ1, μ2, h1, h2, h3, h4⟩ := k_comes (xs (j + 1)) (xs (j + 2)) (xs (j + 3)) (xs (j + 4)) h0 hC hR
    refine ⟨μ2, ?_, h3⟩
    rw [G1 μ hb, ob, G2 μ hb, ob, G3 μ hb, ob, G4 μ hb, ob, h1, ob, G1 μ1 h4, ob, G2 μ1 h4, ob, G3 μ1 h4, ob, G4 μ1 h4, ob, h2, ob, if_pos rfl, j_1398]
  rw [if_neg e10]
  by_cases e11 : (xs j &&& (63 : Int32)) = 11
  · rw [if_pos e11]
    obtain ⟨r, μ1, μ2, h1, h2, h3, h4⟩ := k_all (xs (j + 1)) (xs (j + 2)) h0 hC hR
    refine ⟨μ2, ?_, h3⟩
    rw [G1 μ hb, ob, G2 μ hb, ob, h1, ob, G1 μ1 h4, ob, G2 μ1 h4, ob, h2, ob, if_pos rfl, j_1398]
  rw [if_neg e11]
  by_cases e12 : (xs j &&& (63 : Int32)) = 12
  · rw [if_pos e12]
    obtain ⟨r, μ1, μ2, h1, h2, h3, h4⟩ := k_judge hS h0 hC hR
    refine ⟨μ2, ?_, h3⟩
    rw [h1, ob, h2, ob, if_pos rfl, j_1398]
  rw [if_neg e12]
  by_cases e13 : (xs j &&& (63 : Int32)) = 13
  · rw [if_pos e13]
    obtain ⟨r, μ1, μ2, h1, h2, h3, h4⟩ := k_act (xs (j + 1)) (xs (j + 2)) (xs (j + 3)) (xs (j + 4)) (xs (j + 5)) h0 hC hR
    refine ⟨μ2, ?_, h3⟩
    rw [G1 μ hb, ob, G2 μ hb, ob, G3 μ hb, ob, G4 μ hb, ob, G5 μ hb, ob, h1, ob, G1 μ1 h4, ob, G2 μ1 h4, ob, G3 μ1 h4, ob, G4 μ1 h4, ob, G5 μ1 h4, ob, h2, ob, if_pos rfl, j_1398]
  rw [if_neg e13]
  by_cases e14 : (xs j &&& (63 : Int32)) = 14
  · rw [if_pos e14]
    obtain ⟨r, μ1, μ2, h1, h2, h3, h4⟩ := k_right (xs (j + 1)) (xs (j + 2)) (xs (j + 3)) h0 hC hR
    refine ⟨μ2, ?_, h3⟩
    rw [G1 μ hb, ob, G2 μ hb, ob, G3 μ hb, ob, h1, ob, G1 μ1 h4, ob, G2 μ1 h4, ob, G3 μ1 h4, ob, h2, ob, if_pos rfl, j_1398]
  rw [if_neg e14]
  by_cases e15 : (xs j &&& (63 : Int32)) = 15
  · rw [if_pos e15]
    obtain ⟨r, μ1, μ2, h1, h2, h3, h4⟩ := k_fit (xs (j + 1)) (xs (j + 2)) h0 hC hR
    refine ⟨μ2, ?_, h3⟩
    rw [G1 μ hb, ob, G2 μ hb, ob, h1, ob, G1 μ1 h4, ob, G2 μ1 h4, ob, h2, ob, if_pos rfl, j_1398]
  rw [if_neg e15]
  by_cases e16 : (xs j &&& (63 : Int32)) = 16
  · rw [if_pos e16]
    obtain ⟨r, μ1, μ2, h1, h2, h3, h4⟩ := k_sure (xs (j + 1)) (xs (j + 2)) h0 hC hR
    refine ⟨μ2, ?_, h3⟩
    rw [G1 μ hb, ob, G2 μ hb, ob, h1, ob, G1 μ1 h4, ob, G2 μ1 h4, ob, h2, ob, if_pos rfl, j_1398]
  rw [if_neg e16]
  by_cases e17 : (xs j &&& (63 : Int32)) = 17
  · rw [if_pos e17]
    obtain ⟨r, μ1, μ2, h1, h2, h3, h4⟩ := k_ask (xs (j + 1)) h0 hC hR
    refine ⟨μ2, ?_, h3⟩
    rw [G1 μ hb, ob, h1, ob, G1 μ1 h4, ob, h2, ob, if_pos rfl, j_1398]
  rw [if_neg e17]
  by_cases e18 : (xs j &&& (63 : Int32)) = 18
  · rw [if_pos e18]
    obtain ⟨r, μ1, μ2, h1, h2, h3, h4⟩ := k_knowers (xs (j + 1)) (xs (j + 2)) (xs (j + 3)) (xs (j + 4)) h0 hC hR
    refine ⟨μ2, ?_, h3⟩
    rw [G1 μ hb, ob, G2 μ hb, ob, G3 μ hb, ob, G4 μ hb, ob, h1, ob, G1 μ1 h4, ob, G2 μ1 h4, ob, G3 μ1 h4, ob, G4 μ1 h4, ob, h2, ob, if_pos rfl, j_1398]
  rw [if_neg e18]
  by_cases e19 : (xs j &&& (63 : Int32)) = 19
  · rw [if_pos e19]
    obtain ⟨r, h1, h2⟩ := k_wishes  hC hR
    refine ⟨μ, ?_, up⟩
    rw [h1, ob, h2, ob, if_pos rfl, j_1398]
  rw [if_neg e19]
  by_cases e20 : (xs j &&& (63 : Int32)) = 20
  · rw [if_pos e20]
    obtain ⟨r, μ1, μ2, h1, h2, h3, h4⟩ := k_met (xs (j + 1)) h0 hC hR
    refine ⟨μ2, ?_, h3⟩
    rw [G1 μ hb, ob, h1, ob, G1 μ1 h4, ob, h2, ob, if_pos rfl, j_1398]
  rw [if_neg e20]
  by_cases e21 : (xs j &&& (63 : Int32)) = 21
  · rw [if_pos e21]
    obtain ⟨r, μ1, μ2, h1, h2, h3, h4⟩ := k_plan h0 hC hR
    refine ⟨μ2, ?_, h3⟩
    rw [h1, ob, h2, ob, if_pos rfl, j_1398]
  rw [if_neg e21]
  by_cases e22 : (xs j &&& (63 : Int32)) = 22
  · rw [if_pos e22]
    obtain ⟨r, μ1, μ2, h1, h2, h3, h4⟩ := k_said (xs (j + 1)) (xs (j + 2)) (xs (j + 3)) h0 hC hR
    refine ⟨μ2, ?_, h3⟩
    rw [G1 μ hb, ob, G2 μ hb, ob, G3 μ hb, ob, h1, ob, G1 μ1 h4, ob, G2 μ1 h4, ob, G3 μ1 h4, ob, h2, ob, if_pos rfl, j_1398]
  rw [if_neg e22]
  by_cases e23 : (xs j &&& (63 : Int32)) = 23
  · rw [if_pos e23]
    obtain ⟨r, μ1, μ2, h1, h2, h3, h4⟩ := k_over (xs (j + 1)) (xs (j + 2)) (xs (j + 3)) (xs (j + 4)) h0 hC hR
    refine ⟨μ2, ?_, h3⟩
    rw [G1 μ hb, ob, G2 μ hb, ob, G3 μ hb, ob, G4 μ hb, ob, h1, ob, G1 μ1 h4, ob, G2 μ1 h4, ob, G3 μ1 h4, ob, G4 μ1 h4, ob, h2, ob, if_pos rfl, j_1398]
  rw [if_neg e23]
  by_cases e24 : (xs j &&& (63 : Int32)) = 24
  · rw [if_pos e24]
    obtain ⟨r, μ1, μ2, h1, h2, h3, h4⟩ := k_skill (xs (j + 1)) (xs (j + 2)) h0 hC hR
    refine ⟨μ2, ?_, h3⟩
    rw [G1 μ hb, ob, G2 μ hb, ob, h1, ob, G1 μ1 h4, ob, G2 μ1 h4, ob, h2, ob, if_pos rfl, j_1398]
  rw [if_neg e24]
  by_cases e25 : (xs j &&& (63 : Int32)) = 25
  · rw [if_pos e25]
    obtain ⟨r, h1, h2⟩ := k_ring (xs (j + 1)) hC hR
    refine ⟨μ, ?_, up⟩
    rw [G1 μ hb, ob, h1, ob, ob, h2, ob, if_pos rfl, j_1398]
  rw [if_neg e25]
  by_cases e26 : (xs j &&& (63 : Int32)) = 26
  · rw [if_pos e26]
    obtain ⟨r, h1, h2⟩ := k_marry (xs (j + 1)) (xs (j + 2)) hC hR
    refine ⟨μ, ?_, up⟩
    rw [G1 μ hb, ob, G2 μ hb, ob, h1, ob, ob, ob, h2, ob, if_pos rfl, j_1398]
  rw [if_neg e26]
  by_cases e27 : (xs j &&& (63 : Int32)) = 27
  · rw [if_pos e27]
    obtain ⟨r, μ1, μ2, h1, h2, h3, h4⟩ := k_kept (xs (j + 1)) (xs (j + 2)) (xs (j + 3)) h0 hC hR
    refine ⟨μ2, ?_, h3⟩
    rw [G1 μ hb, ob, G2 μ hb, ob, G3 μ hb, ob, h1, ob, G1 μ1 h4, ob, G2 μ1 h4, ob, G3 μ1 h4, ob, h2, ob, if_pos rfl, j_1398]
  rw [if_neg e27]
  by_cases e28 : (xs j &&& (63 : Int32)) = 28
  · rw [if_pos e28]
    rw [G1 μ hb, ob, G2 μ hb, ob, G3 μ hb, ob, G4 μ hb, ob]
    by_cases y : xs (j + 4) = 0
    · obtain ⟨r, μ1, μ2, h1, h2, h3, h4⟩ := k_lot (xs (j + 1)) (xs (j + 2)) (xs (j + 3)) 0 h0 hC hR
      refine ⟨μ2, ?_, h3⟩
      rw [if_pos y]
      unfold f_L_law_J1113 f_L_law_J1145
      rw [h1, ob, G1 μ1 h4, ob, G2 μ1 h4, ob, G3 μ1 h4, ob, G4 μ1 h4, ob, if_pos y, h2, ob, if_pos rfl, j_1398]
    · obtain ⟨r, μ1, μ2, h1, h2, h3, h4⟩ := k_lot (xs (j + 1)) (xs (j + 2)) (xs (j + 3)) 1 h0 hC hR
      refine ⟨μ2, ?_, h3⟩
      rw [if_neg y]
      unfold f_L_law_J1113 f_L_law_J1145
      rw [h1, ob, G1 μ1 h4, ob, G2 μ1 h4, ob, G3 μ1 h4, ob, G4 μ1 h4, ob, if_neg y, h2, ob, if_pos rfl, j_1398]
  rw [if_neg e28]
  by_cases e29 : (xs j &&& (63 : Int32)) = 29
  · rw [if_pos e29]
    rw [G1 μ hb, ob, G2 μ hb, ob]
    by_cases y : xs (j + 2) = 0
    · obtain ⟨r, μ1, μ2, h1, h2, h3, h4⟩ := k_lotDay (xs (j + 1)) 0 h0 hC hR
      refine ⟨μ2, ?_, h3⟩
      rw [if_pos y]
      unfold f_L_law_J1172 f_L_law_J1194
      rw [h1, ob, G1 μ1 h4, ob, G2 μ1 h4, ob, if_pos y, h2, ob, if_pos rfl, j_1398]
    · obtain ⟨r, μ1, μ2, h1, h2, h3, h4⟩ := k_lotDay (xs (j + 1)) 1 h0 hC hR
      refine ⟨μ2, ?_, h3⟩
      rw [if_neg y]
      unfold f_L_law_J1172 f_L_law_J1194
      rw [h1, ob, G1 μ1 h4, ob, G2 μ1 h4, ob, if_neg y, h2, ob, if_pos rfl, j_1398]
  rw [if_neg e29]
  by_cases e30 : (xs j &&& (63 : Int32)) = 30
  · rw [if_pos e30]
    obtain ⟨r, μ1, μ2, h1, h2, h3, h4⟩ := k_rings hS h0 hC hR
    refine ⟨μ2, ?_, h3⟩
    rw [h1, ob, h2, ob, if_pos (lg_s r), j_1398]
  rw [if_neg e30]
  by_cases e31 : (xs j &&& (63 : Int32)) = 31
  · rw [if_pos e31]
    obtain ⟨r, μ1, μ2, h1, h2, h3, h4⟩ := k_parts (xs (j + 1)) (xs (j + 2)) h0 hC hR
    refine ⟨μ2, ?_, h3⟩
    rw [G1 μ hb, ob, G2 μ hb, ob, h1, ob, G1 μ1 h4, ob, G2 μ1 h4, ob, h2, ob, if_pos (lg_s r), j_1398]
  rw [if_neg e31]
  by_cases e32 : (xs j &&& (63 : Int32)) = 32
  · rw [if_pos e32]
    obtain ⟨r, μ1, μ2, h1, h2, h3, h4⟩ := k_begin (xs (j + 1)) h0 hC hR
    refine ⟨μ2, ?_, h3⟩
    rw [G1 μ hb, ob, h1, ob, G1 μ1 h4, ob, h2, ob, if_pos rfl, j_1398]
  rw [if_neg e32]
  by_cases e33 : (xs j &&& (63 : Int32)) = 33
  · rw [if_pos e33]
    obtain ⟨r, μ1, μ2, h1, h2, h3, h4⟩ := k_go (xs (j + 1)) hi h0 hC hR
    refine ⟨μ2, ?_, h3⟩
    rw [G1 μ hb, ob, h1, ob, G1 μ1 h4, ob, h2, ob, if_pos rfl, j_1398]
  rw [if_neg e33]
  by_cases e34 : (xs j &&& (63 : Int32)) = 34
  · rw [if_pos e34]
    obtain ⟨r, h1, h2⟩ := k_now (xs (j + 1)) (xs (j + 2)) hC hR
    refine ⟨μ, ?_, up⟩
    rw [G1 μ hb, ob, G2 μ hb, ob, h1, ob, ob, ob, h2, ob, if_pos rfl, j_1398]
  rw [if_neg e34]
  by_cases e35 : (xs j &&& (63 : Int32)) = 35
  · rw [if_pos e35]
    obtain ⟨r, μ1, μ2, h1, h2, h3, h4⟩ := k_keep (xs (j + 1)) h0 hC hR
    refine ⟨μ2, ?_, h3⟩
    rw [G1 μ hb, ob, h1, ob, G1 μ1 h4, ob, h2, ob, if_pos rfl, j_1398]
  rw [if_neg e35]
  by_cases e36 : (xs j &&& (63 : Int32)) = 36
  · rw [if_pos e36]
    obtain ⟨r, μ1, μ2, h1, h2, h3, h4⟩ := k_take (xs (j + 1)) h0 hC hR
    refine ⟨μ2, ?_, h3⟩
    rw [G1 μ hb, ob, h1, ob, G1 μ1 h4, ob, h2, ob, if_pos rfl, j_1398]
  rw [if_neg e36]
  by_cases e37 : (xs j &&& (63 : Int32)) = 37
  · rw [if_pos e37]
    obtain ⟨r, h1, h2⟩ := k_count (xs (j + 1)) hC hR
    refine ⟨μ, ?_, up⟩
    rw [G1 μ hb, ob, h1, ob, ob, h2, ob, if_pos rfl, j_1398]
  rw [if_neg e37]
  exact ⟨μ, j_1398, up⟩

theorem sgl_b {g : Nat → Nat} {m : Nat} (h : ∀ f, f < 12 → g f ≤ m) : sgl g ≤ 12 * m := by
  unfold sgl
  have key : ∀ n, n ≤ 12 → sg g n ≤ n * m := by
    intro n
    induction n with
    | zero => intro _; exact Nat.zero_le _
    | succ n ih =>
      intro hn
      have a := ih (by omega)
      have c := h n (by omega)
      show sg g n + g n ≤ (n + 1) * m
      rw [Nat.add_mul]
      omega
  exact key 12 (Nat.le_refl _)
theorem phi_b {n : Nat} (h : n ≤ 14833) : phi n ≤ 44499 := by
  unfold phi
  split <;> omega
/-- room at the end -/
theorem inv_room (h : Inv b L xs X i μ) : mm_N μ ≤ X + 600000 ∧ mm_Z μ ≤ 7302250 := by
  obtain ⟨-, c, s, hC, -⟩ := h
  obtain ⟨Rw, Ft, nr, sz, fo, Ml, Ln, as, h1, h2, h3, h4, h5, h6, h7, h8⟩ := hC.2.2.2.2.2.2
  have n1 := h1.2.2.2.2.1
  have a1 := sgl_b (g := Ln) (m := 14833) (fun f hf => (h2 f hf).2.2.1)
  have a2 := sgl_b (g := fun f => phi (Ln f)) (m := 44499) (fun f hf => phi_b (h2 f hf).2.2.1)
  have a3 := phi_b n1
  exact ⟨by omega, by omega⟩
theorem l_loop (hL : L ≤ 3072) (hS : HS μ) (hv : Inv b L xs X 0 μ) : ∃ r, whl (f_L_law_L18 b X (X + 90)) ((0 : Int32), μ) = some r ∧ mm_N r ≤ X + 600000 ∧ mm_Z r ≤ 7302250 := by
  refine whl_i (body := f_L_law_L18 b X (X + 90)) (L / 6) (fun k (x : Int32 × Mm) => ∃ ν, x = (nI (6 * k), ν) ∧ Inv b L xs X k ν ∧ mm_S ν = mm_S μ) (Q := fun r => mm_N r ≤ X + 600000 ∧ mm_Z r ≤ 7302250) (s0 := ((0 : Int32), μ)) ⟨μ, rfl, hv, rfl⟩ ?_ ?_
  · rintro k x hk ⟨ν, rfl, q1, q2⟩
    have hS2 : HS ν := fun i j hi hj e => hS i j hi hj (by rw [← q2]; exact e)
    obtain ⟨μ2, a1, a2⟩ := l_step (j := 6 * k) hL (by omega) (by omega) hS2 q1
    have t := (t_L_law_L18 a1).1
    exact ⟨_, a1, μ2, rfl, a2, t.trans q2⟩
  · rintro x ⟨ν, rfl, q1, q2⟩
    refine ⟨ν, ?_, inv_room q1⟩
    have gl : gs_len b ν = some (nI L) := by
      unfold gs_len
      rw [q1.1.1, if_pos rfl]
    unfold f_L_law_L18
    rw [show gs_len b (nI (6 * (L / 6)), ν).2 = some (nI L) from gl, ob, if_pos]
    show nI L - 6 < nI (6 * (L / 6))
    by_cases y : L < 6
    · have : 6 * (L / 6) = 0 := by omega
      rw [this]
      have key : ∀ n, n < 6 → nI n - 6 < nI 0 := by decide
      exact key L y
    · rw [show (6 : Int32) = nI 6 from rfl, pk_sub (by omega), nI_lt_i (by omega) (by omega)]
      omega
end LAW
