/-! ===== a fault told, in both ===== -/
section TOK
variable {X : Nat} {μ : Mm}
theorem c_fail {v : Int32} (h : Sh X μ) : f_X8_fail (X + 57) v μ = some (0, ms_I (ms_I μ (X + 57) 3 v) (X + 57) 4 (mm_I μ (X + 3) 3)) := by
  have e : mm_I (ms_I μ (X + 57) 3 v) (X + 3) 3 = mm_I μ (X + 3) 3 := by rw [rI, if_neg (by omega)]
  unfold f_X8_fail
  rw [if_pos (by rw [mk_57 h]), wf_57 h, ob, rp_57_0 (shI' h _ _ _), ob, rf_3 (shI' h _ _ _), ob, e, wf_57 (shI' h _ _ _), ob]
theorem r_fails {v : Int32} (h : Sh X μ) : f_X11_fails (X + 90) v μ = some (0, ms_I (ms_I μ (X + 90) 8 v) (X + 90) 9 (mm_I μ (X + 90) 5)) := by
  have e : mm_I (ms_I μ (X + 90) 8 v) (X + 90) 5 = mm_I μ (X + 90) 5 := by rw [rI, if_neg (by omega)]
  unfold f_X11_fails
  rw [if_pos (by rw [mk_90 h]), wf_90 h, ob, rf_90 (shI' h _ _ _), ob, e, wf_90 (shI' h _ _ _), ob]
theorem c_once {t : Nat} (ht : t < 13) : f_X8_isOnce (nI t) μ = some (nI (decide (9 ≤ t) && decide (t ≤ 11)).toNat) := by
  unfold f_X8_isOnce f_X8_isOnce_J18
  rw [show (9 : Int32) = nI 9 from rfl, show (10 : Int32) = nI 10 from rfl, show (11 : Int32) = nI 11 from rfl]
  simp only [nI_eq_i (show t < 2 ^ 31 by omega) (show 9 < 2 ^ 31 by decide), nI_eq_i (show t < 2 ^ 31 by omega) (show 10 < 2 ^ 31 by decide), nI_eq_i (show t < 2 ^ 31 by omega) (show 11 < 2 ^ 31 by decide)]
  by_cases e1 : t = 9
  · rw [if_pos e1, e1]; rfl
  · rw [if_neg e1]
    by_cases e2 : t = 10
    · rw [if_pos e2, e2]; rfl
    · rw [if_neg e2]
      by_cases e3 : t = 11
      · rw [if_pos e3, e3]; rfl
      · rw [if_neg e3]
        by_cases e4 : 9 ≤ t
        · rw [decide_eq_true e4, decide_eq_false (by omega)]; rfl
        · rw [decide_eq_false e4]; rfl
end TOK
