/-! ===== no town has more turnings than 14833 ===== -/
def fc : Nat → Nat
  | 0 => 1
  | n + 1 => (n + 1) * fc n
theorem fc_mono {a b : Nat} (h : a ≤ b) : fc a ≤ fc b := by
  induction b with
  | zero => rw [Nat.le_zero.mp h]; exact Nat.le_refl _
  | succ b ih =>
    by_cases e : a = b + 1
    · rw [e]; exact Nat.le_refl _
    · refine Nat.le_trans (ih (by omega)) ?_
      show fc b ≤ (b + 1) * fc b
      exact Nat.le_mul_of_pos_left _ (by omega)
def av (S : Nat → Bool) (u : Nat) : Nat := sg (fun q => (S q && !u.testBit q).toNat) 8
theorem sg_hole {f g : Nat → Nat} {q : Nat} (h1 : f q = 1) (h0 : g q = 0) (hx : ∀ x, x ≠ q → g x = f x) : ∀ m, sg g m + (if q < m then 1 else 0) = sg f m := by
  intro m
  induction m with
  | zero => rfl
  | succ m ih =>
    show sg g m + g m + _ = sg f m + f m
    by_cases e : m = q
    · subst e
      rw [if_neg (by omega)] at ih
      rw [if_pos (by omega), h0, h1]
      omega
    · rw [hx m e]
      by_cases h : q < m
      · rw [if_pos h] at ih; rw [if_pos (by omega)]; omega
      · rw [if_neg h] at ih; rw [if_neg (by omega)]; omega
theorem av_or {S : Nat → Bool} {u q : Nat} (hq : q < 8) (h : (S q && !u.testBit q) = true) : av S (u ||| 2 ^ q) + 1 = av S u := by
  have := sg_hole (f := fun q => (S q && !u.testBit q).toNat) (g := fun x => (S x && !(u ||| 2 ^ q).testBit x).toNat) (q := q) (by rw [h]; rfl) (by rw [tb_or]; simp) (fun x hx => by
    have e : (q == x) = false := by simp; omega
    rw [tb_or, e, Bool.or_false]) 8
  rw [if_pos hq] at this
  exact this
theorem sg_const (S : Nat → Bool) (F : Nat) : ∀ m, sg (fun q => if S q then F else 0) m = sg (fun q => (S q).toNat) m * F := by
  intro m
  induction m with
  | zero => show 0 = 0 * F; rw [Nat.zero_mul]
  | succ m ih =>
    show sg _ m + _ = (sg _ m + _) * F
    rw [ih, Nat.add_mul]
    cases e : S m <;> simp [e]
theorem cn_fc {ok : Nat → Nat → Bool} {S : Nat → Bool} (hS : ∀ p q, ok p q = true → S q = true) : ∀ (ds : List Nat) (u : Nat), cn ok ds u ≤ fc (av S u) := by
  intro ds
  induction ds with
  | nil =>
    intro u
    show 1 ≤ _
    exact fc_mono (Nat.zero_le _)
  | cons p ds ih =>
    intro u
    have h1 : cn ok (p :: ds) u ≤ sg (fun q => if S q && !u.testBit q then fc (av S u - 1) else 0) 8 := sg_le (fun q hq => by
      by_cases e : (ok p q && !u.testBit q) = true
      · have e1 : ok p q = true := by revert e; cases ok p q <;> simp
        have e2 : (!u.testBit q) = true := by revert e; cases u.testBit q <;> simp
        have e3 : (S q && !u.testBit q) = true := by rw [hS p q e1, e2]; rfl
        rw [if_pos e, if_pos e3]
        refine Nat.le_trans (ih _) (fc_mono ?_)
        have := av_or hq e3
        omega
      · rw [if_neg e]; exact Nat.zero_le _)
    rw [sg_const (fun q => S q && !u.testBit q)] at h1
    refine Nat.le_trans h1 ?_
    show av S u * fc (av S u - 1) ≤ fc (av S u)
    cases av S u with
    | zero => rw [Nat.zero_mul]; exact Nat.zero_le _
    | succ n => exact Nat.le_refl _
theorem av_7 {S : Nat → Bool} {a : Nat} (ha : a < 8) (h : S a = false) : av S 0 ≤ 7 := by
  have h1 : av S 0 ≤ sg (fun q => if q = a then 0 else 1) 8 := sg_le (fun q _ => by
    by_cases e : q = a
    · rw [e, h, if_pos rfl]; exact Nat.le_refl _
    · rw [if_neg e]; cases (S q && !(0 : Nat).testBit q) <;> decide)
  have h2 : ∀ a, a < 8 → sg (fun q => if q = a then 0 else 1) 8 ≤ 7 := by decide +kernel
  exact Nat.le_trans h1 (h2 a ha)
theorem cn_all {n A : Nat} (hn : n ≤ 8) (hA : A < 2 ^ n) : cn (ok0 n A) (dr0 A 0 n) 0 ≤ 14833 := by
  have hS : ∀ p q, ok0 n A p q = true → (decide (q < n) && !A.testBit q) = true := by
    intro p q h
    unfold ok0 at h
    revert h
    cases decide (q < n) <;> cases (q == p) <;> cases A.testBit q <;> simp
  have h7 : av (fun q => decide (q < n) && !A.testBit q) 0 ≤ 7 → cn (ok0 n A) (dr0 A 0 n) 0 ≤ 14833 := fun h => Nat.le_trans (cn_fc hS _ _) (Nat.le_trans (fc_mono h) (by decide))
  by_cases e : n = 8
  · subst e
    by_cases ex : ∃ a, a < 8 ∧ A.testBit a = true
    · obtain ⟨a, h1, h2⟩ := ex
      exact h7 (av_7 h1 (by rw [h2]; simp))
    · have h0 : A = 0 := Nat.eq_of_testBit_eq (fun i => by
        rw [Nat.zero_testBit]
        by_cases hi : i < 8
        · cases hx : A.testBit i with
          | false => rfl
          | true => exact absurd ⟨i, hi, hx⟩ ex
        · exact Nat.testBit_lt_two_pow (Nat.lt_of_lt_of_le hA (Nat.pow_le_pow_right (by decide) (by omega))))
      subst h0
      rw [cn_8]
      exact Nat.le_refl _
  · refine h7 (av_7 (a := 7) (by decide) ?_)
    rw [decide_eq_false (by omega)]; rfl
theorem EN_len {T : Tn} (ok : OkT T) : (EN T).length ≤ 14833 := by
  have hn := ok.1.1
  have hA := ok.1.2.2.2.2.2.2.2.2.1
  rw [← EN_p ok, en_len, dr0_e]
  refine Nat.le_trans (cn_mono (ok' := ok0 (T 0 0) (T 0 7)) ?_ _ _) (cn_all hn hA)
  intro p q h
  unfold okp at h
  unfold ok0
  revert h
  cases decide (q < T 0 0) <;> cases (q == p) <;> cases (T 0 7).testBit q <;> simp
