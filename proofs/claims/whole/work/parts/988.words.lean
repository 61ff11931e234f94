/-! ===== keywords: the class's isWord ===== -/
def sW (i k : Nat) : Int32 := (s_by.getD i []).getD k 0
def wEq (B : Nat → Nat) (j len i : Nat) : Bool := (s_ln.getD i 0 == len) && !anyb (fun k => !(sW i k == nI (B (j + k)))) len
theorem s_ln_le : ∀ i, i < 13 → 1 ≤ s_ln.getD i 0 ∧ s_ln.getD i 0 ≤ 6 := by decide +kernel
section TOK
variable {X n j : Nat} {B : Nat → Nat} {μ : Mm}
theorem kEq_w {len t : Nat} (ht : t < 13) : kEq B j len t = wEq B j len (kp t) := by
  unfold kEq wEq
  show ((wLn t == len) && _) = ((wLn t == len) && _)
  by_cases e : wLn t = len
  · have hx : ∀ m, m ≤ len → anyb (fun k => !(sB (wOff t + k) == nI (B (j + k)))) m = anyb (fun k => !(sW (kp t) k == nI (B (j + k)))) m := by
      intro m
      induction m with
      | zero => intro _; rfl
      | succ m ih =>
        intro hm
        show (anyb _ m || _) = (anyb _ m || _)
        rw [ih (by omega)]
        dsimp only
        rw [w_by t ht m (by omega)]
        rfl
    rw [hx len (Nat.le_refl _)]
  · have : (wLn t == len) = false := by simpa using e
    rw [this]; rfl
theorem sx_len_i {i : Nat} (hi : i < 14) (hS : ∀ i j, i < 14 → j < 14 → mm_S μ i = mm_S μ j → i = j) : sx_len (mm_S μ i) μ = some (nI (s_ln.getD i 0)) := by
  unfold sx_len
  rw [sx_i hi hS]; rfl
theorem sx_at_i {i k : Nat} (hi : i < 14) (hS : ∀ i j, i < 14 → j < 14 → mm_S μ i = mm_S μ j → i = j) (hk : k < s_ln.getD i 0) (hk2 : k < 1000) : sx_at (mm_S μ i) (nI k) μ = some (sW i k) := by
  unfold sx_at
  rw [sx_i hi hS, ob, nI_toInt (by omega), if_pos ⟨by omega, by omega⟩, nI_clamp (by omega)]
  rfl
theorem c_isWord {i kd len : Nat} (hi : i < 13) (hS : ∀ i j, i < 14 → j < 14 → mm_S μ i = mm_S μ j → i = j) (h : Sh X μ) (hc : Cp X n B μ) (h2 : mm_I μ (X + 3) 2 = nI kd) (hk : kd ≤ 4) (h3 : mm_I μ (X + 3) 3 = nI j) (h4 : kd = 1 → mm_I μ (X + 3) 4 = nI len ∧ j + len ≤ n) : f_X6_isWord (X + 3) (mm_S μ i) μ = some (nI (kd == 1 && wEq B j len i).toNat) := by
  have n9 := hc.1
  have hl6 := s_ln_le i hi
  unfold f_X6_isWord
  rw [if_pos (by rw [mk_3 h]), rf_3 h, ob, h2]
  by_cases e1 : kd = 1
  · obtain ⟨h5, h6⟩ := h4 e1
    have e1b : (kd == 1) = true := by simpa using e1
    rw [e1b, Bool.true_and, e1, if_pos (show nI 1 = 1 from rfl), rf_3 h, ob, h5, sx_len_i (by omega) hS, ob]
    unfold wEq
    by_cases e2 : s_ln.getD i 0 = len
    · have e2b : (s_ln.getD i 0 == len) = true := by simpa using e2
      rw [if_pos (by rw [e2]), e2b, Bool.true_and]
      have hst : ∀ k, k < len → f_X6_isWord_L23 (X + 3) (mm_S μ i) μ (nI k) = if sW i k = nI (B (j + k)) then some (.inl (nI (k + 1))) else some (.inr (.inl ())) := by
        intro k hk
        simp only [f_X6_isWord_L23]
        rw [sx_len_i (by omega) hS, ob, if_neg (by rw [nI_le_i (by omega) (by omega)]; omega), rp_3_0 h, ob, rf_3 h, ob, h3, nI_add, e_tapeC h hc (by omega), ob, sx_at_i (by omega) hS (by omega) (by omega), ob, ob, nI_1]
        by_cases z : sW i k = nI (B (j + k))
        · rw [if_pos z.symm, if_pos z]
        · rw [if_neg (fun w => z w.symm), if_neg z]
      refine (whl_fb len (fun k => nI k) (fun k => !(sW i k == nI (B (j + k)))) (fun _ => .inl ()) (b := .inr ()) rfl (fun k hk hq => ?_) (fun k hk hq => ?_) ?_).trans ?_
      · rw [hst k hk, if_pos (by simpa using hq)]
      · rw [hst k hk, if_neg (by simpa using hq)]
      · simp only [f_X6_isWord_L23]
        rw [sx_len_i (by omega) hS, ob, e2, if_pos (nI_le (Nat.le_refl _) (by omega))]
      · cases e3 : ff (fun k => !(sW i k == nI (B (j + k)))) len with
        | none =>
          have : anyb (fun k => !(sW i k == nI (B (j + k)))) len = false := anyb_f.mpr (ff_none.mp e3)
          rw [this]; rfl
        | some q =>
          obtain ⟨g1, g2, -⟩ := ff_some.mp e3
          have : anyb (fun k => !(sW i k == nI (B (j + k)))) len = true := anyb_t.mpr ⟨q, g1, g2⟩
          rw [this]; rfl
    · have e2b : (s_ln.getD i 0 == len) = false := by simpa using e2
      rw [if_neg (fun w => e2 (by rw [nI_eq_i (by omega) (by omega)] at w; exact w.symm)), e2b]
      rfl
  · have e1b : (kd == 1) = false := by simpa using e1
    rw [e1b, if_neg (by rw [show (1 : Int32) = nI 1 from rfl, nI_eq_i (by omega) (by omega)]; exact e1)]
    rfl
end TOK
