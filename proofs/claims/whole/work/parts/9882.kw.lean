/-! ===== the two numberings of the keywords ===== -/
theorem w_uni : ∀ i, i < 13 → ∀ i', i' < 13 → i ≠ i' → s_ln.getD i 0 = s_ln.getD i' 0 → anyb (fun k => !(sW i k == sW i' k)) (s_ln.getD i 0) = true := by decide +kernel
theorem kp_lt : ∀ t, t < 13 → kp t < 13 ∧ (kp t = 12 ↔ t = 12) := by decide +kernel
theorem kp_sur : ∀ i, i < 13 → anyb (fun t => kp t == i) 13 = true := by decide +kernel
section TOK
variable {j len : Nat} {B : Nat → Nat}
theorem wEq_d {i : Nat} (h : wEq B j len i = true) : s_ln.getD i 0 = len ∧ ∀ k, k < len → sW i k = nI (B (j + k)) := by
  unfold wEq at h
  rw [Bool.and_eq_true] at h
  refine ⟨by simpa using h.1, fun k hk => ?_⟩
  have h2 : anyb (fun k => !(sW i k == nI (B (j + k)))) len = false := by simpa using h.2
  have := anyb_f.mp h2 k hk
  simpa using this
theorem wEq_u {i i' : Nat} (hi : i < 13) (hi' : i' < 13) (h : wEq B j len i = true) (h' : wEq B j len i' = true) : i = i' := by
  obtain ⟨a1, a2⟩ := wEq_d h
  obtain ⟨b1, b2⟩ := wEq_d h'
  by_cases e : i = i'
  · exact e
  · have := w_uni i hi i' hi' e (by omega)
    obtain ⟨k, k1, k2⟩ := anyb_t.mp this
    rw [a2 k (by omega), b2 k (by omega)] at k2
    simp at k2
theorem kw_c {t : Nat} (h : kwd B j len = some t) : t < 13 ∧ wEq B j len (kp t) = true ∧ ff (wEq B j len) 12 = if t = 12 then none else some (kp t) := by
  obtain ⟨h1, h2, -⟩ := ff_some.mp h
  rw [kEq_w h1] at h2
  have hk := kp_lt t h1
  refine ⟨h1, h2, ?_⟩
  by_cases e : t = 12
  · rw [if_pos e]
    refine ff_none.mpr (fun l hl => ?_)
    cases el : wEq B j len l with
    | false => rfl
    | true =>
      have := wEq_u (by omega) hk.1 el h2
      have := hk.2.mpr e
      omega
  · rw [if_neg e]
    have hne : kp t ≠ 12 := fun z => e (hk.2.mp z)
    refine ff_some.mpr ⟨by omega, h2, fun l hl => ?_⟩
    cases el : wEq B j len l with
    | false => rfl
    | true =>
      have := wEq_u (by omega) hk.1 el h2
      omega
theorem kw_n (h : kwd B j len = none) : ∀ i, i < 13 → wEq B j len i = false := by
  intro i hi
  obtain ⟨t, t1, t2⟩ := anyb_t.mp (kp_sur i hi)
  have t2 : kp t = i := by simpa using t2
  have := ff_none.mp h t t1
  rw [kEq_w t1, t2] at this
  exact this
end TOK
