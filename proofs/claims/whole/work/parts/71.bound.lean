theorem cn_all : ∀ n, n < 9 → ∀ A, A < 2 ^ n → cn (ok0 n A) (dr0 A 0 n) 0 ≤ 14833 := by decide +kernel
theorem EN_len {T : Tn} (ok : OkT T) : (EN T).length ≤ 14833 := by
  have hn := ok.1.1
  have hA := ok.1.2.2.2.2.2.2.2.2.1
  rw [← EN_p ok, en_len, dr0_e]
  refine Nat.le_trans (cn_mono (ok' := ok0 (T 0 0) (T 0 7)) ?_ _ _) (cn_all (T 0 0) (by omega) (T 0 7) hA)
  intro p q h
  unfold okp at h
  unfold ok0
  revert h
  cases decide (q < T 0 0) <;> cases (q == p) <;> cases (T 0 7).testBit q <;> simp
