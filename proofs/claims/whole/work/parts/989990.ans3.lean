/-! ===== the class's census: by lot ===== -/
section CEN
variable {X i c : Nat} {s : Sv} {μ ν ρ : Mm} {T : Tn} {A : Nat → Nat → Nat}
variable {Rw Ft nr sz fo : Nat} {Ml Ln : Nat → Nat}
def lot0 (T : Tn) (f day : Nat) : Nat := sg (fun k => cntb (c_beh T (dr T k) w7 u0 f (day + 1)) (T 0 0)) (EN T).length
def lot1 (T : Tn) (f day : Nat) : Nat := cntb (fun k => allb (T 0 0) (c_beh T (dr T k) w7 u0 f (day + 1))) (EN T).length
def lot2 (T : Tn) (f : Nat) : Nat := sg (fun k => dyA T (dr T k) f) (EN T).length
theorem lot0_b {f day : Nat} (ok : OkT T) : ∀ n, n ≤ (EN T).length → sg (fun k => cntb (c_beh T (dr T k) w7 u0 f (day + 1)) (T 0 0)) n ≤ 118664 := by
  intro n hn
  have hl := EN_len ok
  have n8 := ok.1.1
  have h := sg_leb (g := fun k => cntb (c_beh T (dr T k) w7 u0 f (day + 1)) (T 0 0)) (b := 8) (n := n) (fun k _ => by have := cntb_le (c_beh T (dr T k) w7 u0 f (day + 1)) (T 0 0); omega)
  omega
theorem lot2_b {f : Nat} (ok : OkT T) : ∀ n, n ≤ (EN T).length → sg (fun k => dyA T (dr T k) f) n ≤ 415324 := by
  intro n hn
  have hl := EN_len ok
  have h := sg_leb (g := fun k => dyA T (dr T k) f) (b := 28) (n := n) (fun k _ => dyA_le T (dr T k) f)
  omega
theorem dyA_a {d : Nat → Nat} {f day : Nat} (hd : day < 28) : dyA T d f ≤ day ↔ allb (T 0 0) (c_beh T d w7 u0 f (day + 1)) = true := by
  rw [← mxm_d, allb_t]
  have key : mxm T d f (T 0 0) ≤ 2 * day + 1 ↔ ∀ p, p < T 0 0 → c_beh T d w7 u0 f (day + 1) p = true := by
    rw [mxm_le]
    exact ⟨fun h p hp => (momp_b hd).mp (h p hp), fun h p hp => (momp_b hd).mpr (h p hp)⟩
  rw [← key]
  omega
theorem c_inAll {f day : Nat} (h : IC X i c s μ) (hf : f < s.1 0 1) (hd : day < 28) : ∃ ν, f_X1_knowingInAll (X + 66) (nI f) (nI day) μ = some (nI (lot0 s.1 f day), ν) ∧ IC X i c s ν ∧ ChC X μ ν := by
  have ok := h.2.1.1
  have n8 := ok.1.1
  have hl := EN_len ok
  obtain ⟨Rw, Ft, nr, sz, fo, Ml, Ln, as, z0, -⟩ := cc_z h.2.2.2.2.2.2
  obtain ⟨ν, Rw', Ft', nr', fo', Ml', Ln', a1, a2, a3, z, a5, -⟩ := z_one h hf z0
  have g := a2.1.1
  refine ⟨ν, ?_, a2, a3⟩
  unfold f_X1_knowingInAll
  rw [if_pos (by rw [mk_66 h.1.1]), a1, ob]
  have key : whl (f_X1_knowingInAll_L12 (X + 66) (nI f) (nI day) ν) ((0 : Int32), (0 : Int32)) = some (nI (lot0 s.1 f day)) := by
    refine whl_c (EN s.1).length (fun t => (nI (sg (fun k => cntb (c_beh s.1 (dr s.1 k) w7 u0 f (day + 1)) (s.1 0 0)) t), nI t)) rfl (fun t ht => ?_) ?_
    · simp only [f_X1_knowingInAll_L12]
      rw [rf_66 g, ob, z.2.2.2.1.1, if_neg (by rw [nI_le_i (by omega) (by omega)]; omega), e_know a2 z a5 ht hd, ob, e_bc (bm_lt _ 8), ob, pc_bm _ n8, nI_add, ob, ob, nI_1]
      rfl
    · simp only [f_X1_knowingInAll_L12]
      rw [rf_66 g, ob, z.2.2.2.1.1, if_pos (nI_le (Nat.le_refl _) (by omega))]
      rfl
  rw [key, ob]
theorem c_ofAll {f day : Nat} (h : IC X i c s μ) (hf : f < s.1 0 1) (hd : day < 28) : ∃ ν, f_X1_turningsOfAll (X + 66) (nI f) (nI day) μ = some (nI (lot1 s.1 f day), ν) ∧ IC X i c s ν ∧ ChC X μ ν := by
  have ok := h.2.1.1
  have hl := EN_len ok
  obtain ⟨Rw, Ft, nr, sz, fo, Ml, Ln, as, z0, -⟩ := cc_z h.2.2.2.2.2.2
  obtain ⟨ν, Rw', Ft', nr', fo', Ml', Ln', a1, a2, a3, z, a5, -⟩ := z_one h hf z0
  have g := a2.1.1
  refine ⟨ν, ?_, a2, a3⟩
  unfold f_X1_turningsOfAll
  rw [if_pos (by rw [mk_66 h.1.1]), a1, ob]
  have key : whl (f_X1_turningsOfAll_L12 (X + 66) (nI f) (nI day) ν) ((0 : Int32), (0 : Int32)) = some (nI (lot1 s.1 f day)) := by
    refine whl_c (EN s.1).length (fun t => (nI (cntb (fun k => allb (s.1 0 0) (c_beh s.1 (dr s.1 k) w7 u0 f (day + 1))) t), nI t)) rfl (fun t ht => ?_) ?_
    · have dl := dyA_le s.1 (dr s.1 t) f
      have da := dyA_a (T := s.1) (d := dr s.1 t) (f := f) hd
      simp only [f_X1_turningsOfAll_L12, f_X1_turningsOfAll_J35]
      rw [rf_66 g, ob, z.2.2.2.1.1, if_neg (by rw [nI_le_i (by omega) (by omega)]; omega), e_dayAll a2 z a5 ht, ob]
      have ec : cntb (fun k => allb (s.1 0 0) (c_beh s.1 (dr s.1 k) w7 u0 f (day + 1))) (t + 1) = cntb (fun k => allb (s.1 0 0) (c_beh s.1 (dr s.1 k) w7 u0 f (day + 1))) t + (allb (s.1 0 0) (c_beh s.1 (dr s.1 t) w7 u0 f (day + 1))).toNat := rfl
      rw [ec]
      cases ea : allb (s.1 0 0) (c_beh s.1 (dr s.1 t) w7 u0 f (day + 1)) with
      | true =>
        have := da.mpr ea
        rw [if_neg (by rw [nI_lt_i (by omega) (by omega)]; omega), ob, ob, nI_1, nI_1]
        rfl
      | false =>
        have : ¬ dyA s.1 (dr s.1 t) f ≤ day := fun y => by have := da.mp y; rw [ea] at this; cases this
        rw [if_pos (by rw [nI_lt_i (by omega) (by omega)]; omega), ob, nI_1]
        rfl
    · simp only [f_X1_turningsOfAll_L12]
      rw [rf_66 g, ob, z.2.2.2.1.1, if_pos (nI_le (Nat.le_refl _) (by omega))]
      rfl
  rw [key, ob]
theorem c_first {f : Nat} (h : IC X i c s μ) (hf : f < s.1 0 1) : ∃ ν, f_X1_firstDaysInAll (X + 66) (nI f) μ = some (nI (lot2 s.1 f), ν) ∧ IC X i c s ν ∧ ChC X μ ν := by
  have ok := h.2.1.1
  have hl := EN_len ok
  obtain ⟨Rw, Ft, nr, sz, fo, Ml, Ln, as, z0, -⟩ := cc_z h.2.2.2.2.2.2
  obtain ⟨ν, Rw', Ft', nr', fo', Ml', Ln', a1, a2, a3, z, a5, -⟩ := z_one h hf z0
  have g := a2.1.1
  refine ⟨ν, ?_, a2, a3⟩
  unfold f_X1_firstDaysInAll
  rw [if_pos (by rw [mk_66 h.1.1]), a1, ob]
  have key : whl (f_X1_firstDaysInAll_L11 (X + 66) (nI f) ν) ((0 : Int32), (0 : Int32)) = some (nI (lot2 s.1 f)) := by
    refine whl_c (EN s.1).length (fun t => (nI (sg (fun k => dyA s.1 (dr s.1 k) f) t), nI t)) rfl (fun t ht => ?_) ?_
    · simp only [f_X1_firstDaysInAll_L11]
      rw [rf_66 g, ob, z.2.2.2.1.1, if_neg (by rw [nI_le_i (by omega) (by omega)]; omega), e_dayAll a2 z a5 ht, ob, nI_add, ob, ob, nI_1]
      rfl
    · simp only [f_X1_firstDaysInAll_L11]
      rw [rf_66 g, ob, z.2.2.2.1.1, if_pos (nI_le (Nat.le_refl _) (by omega))]
      rfl
  rw [key, ob]
end CEN
