/-! ===== turnings, in the abstract: a list of rows ===== -/
def cat {α : Type} (g : Nat → List α) : Nat → List α
  | 0 => []
  | m + 1 => cat g m ++ g m
theorem cat_x {α : Type} {g h : Nat → List α} {m : Nat} (e : ∀ q, q < m → g q = h q) : cat g m = cat h m := by
  induction m with
  | zero => rfl
  | succ m ih => show cat g m ++ g m = cat h m ++ h m; rw [ih (fun q hq => e q (by omega)), e m (by omega)]
theorem cat_nil {α : Type} {g : Nat → List α} {m : Nat} (e : ∀ q, q < m → g q = []) : cat g m = [] := by
  induction m with
  | zero => rfl
  | succ m ih => show cat g m ++ g m = []; rw [ih (fun q hq => e q (by omega)), e m (by omega)]; rfl
theorem cat_map {α β : Type} (f : α → β) (g : Nat → List α) (m : Nat) : (cat g m).map f = cat (fun q => (g q).map f) m := by
  induction m with
  | zero => rfl
  | succ m ih => show (cat g m ++ g m).map f = cat _ m ++ _; rw [List.map_append, ih]
def sg (g : Nat → Nat) : Nat → Nat
  | 0 => 0
  | m + 1 => sg g m + g m
theorem sg_x {g h : Nat → Nat} {m : Nat} (e : ∀ q, q < m → g q = h q) : sg g m = sg h m := by
  induction m with
  | zero => rfl
  | succ m ih => show sg g m + g m = sg h m + h m; rw [ih (fun q hq => e q (by omega)), e m (by omega)]
theorem sg_le {g h : Nat → Nat} {m : Nat} (e : ∀ q, q < m → g q ≤ h q) : sg g m ≤ sg h m := by
  induction m with
  | zero => exact Nat.le_refl _
  | succ m ih =>
    show sg g m + g m ≤ sg h m + h m
    have := ih (fun q hq => e q (by omega))
    have := e m (by omega)
    omega
theorem cat_len {α : Type} (g : Nat → List α) (m : Nat) : (cat g m).length = sg (fun q => (g q).length) m := by
  induction m with
  | zero => rfl
  | succ m ih => show (cat g m ++ g m).length = _; rw [List.length_append, ih]; rfl
/-- all rows: for the dreamers ds, those in used are dreamt already; ok p q: p may dream q -/
def en (ok : Nat → Nat → Bool) : List Nat → Nat → Nat → List Nat
  | [], _, row => [row]
  | p :: ds, used, row => cat (fun q => if ok p q && !used.testBit q then en ok ds (used ||| 2 ^ q) (row + q * 16 ^ p) else []) 8
def cn (ok : Nat → Nat → Bool) : List Nat → Nat → Nat
  | [], _ => 1
  | p :: ds, used => sg (fun q => if ok p q && !used.testBit q then cn ok ds (used ||| 2 ^ q) else 0) 8
theorem en_len (ok : Nat → Nat → Bool) : ∀ (ds : List Nat) (used row : Nat), (en ok ds used row).length = cn ok ds used := by
  intro ds
  induction ds with
  | nil => intro _ _; rfl
  | cons p ds ih =>
    intro used row
    show (cat _ 8).length = sg _ 8
    rw [cat_len]
    apply sg_x
    intro q _
    split
    · exact ih _ _
    · rfl
theorem en_add (ok : Nat → Nat → Bool) : ∀ (ds : List Nat) (used row x : Nat), en ok ds used (row + x) = (en ok ds used row).map (fun r => r + x) := by
  intro ds
  induction ds with
  | nil => intro _ _ _; rfl
  | cons p ds ih =>
    intro used row x
    show cat _ 8 = (cat _ 8).map _
    rw [cat_map]
    apply cat_x
    intro q _
    split
    · rw [show row + x + q * 16 ^ p = row + q * 16 ^ p + x by omega, ih]
    · rfl
theorem cn_mono {ok ok' : Nat → Nat → Bool} (h : ∀ p q, ok p q = true → ok' p q = true) : ∀ (ds : List Nat) (used : Nat), cn ok ds used ≤ cn ok' ds used := by
  intro ds
  induction ds with
  | nil => intro _; exact Nat.le_refl _
  | cons p ds ih =>
    intro used
    show sg _ 8 ≤ sg _ 8
    apply sg_le
    intro q _
    by_cases e : (ok p q && !used.testBit q) = true
    · have e1 : ok p q = true := by revert e; cases ok p q <;> simp
      have e2 : used.testBit q = false := by revert e; cases used.testBit q <;> simp
      rw [if_pos e, if_pos (by rw [h p q e1, e2]; rfl)]
      exact ih _
    · rw [if_neg e]; exact Nat.zero_le _
/-- whom one may dream: the reference's words -/
def okp (T : Tn) (p q : Nat) : Bool := decide (q < T 0 0) && !(q == p) && !(T 0 7).testBit q && (T 1 p == 0 || T 1 p == q + 1)
/-- the class's -/
def okc (T : Tn) (p q : Nat) : Bool := if T 1 p = 0 then (decide (q < T 0 0) && !(T 0 7).testBit q && !(T 0 11).testBit q && !(q == p)) else q == T 1 p - 1
/-- those who dream, among k from p on -/
def drf (T : Tn) : Nat → Nat → List Nat
  | _, 0 => []
  | p, k + 1 => if (T 0 7).testBit p then drf T (p + 1) k else p :: drf T (p + 1) k
def alb (T : Tn) : Nat → Nat → Nat
  | _, 0 => 0
  | p, k + 1 => (if (T 0 7).testBit p then 15 * 16 ^ p else 0) + alb T (p + 1) k
theorem drf_mem {T : Tn} : ∀ {k p r : Nat}, r ∈ drf T p k ↔ p ≤ r ∧ r < p + k ∧ (T 0 7).testBit r = false := by
  intro k
  induction k with
  | zero => intro p r; simp [drf]; omega
  | succ k ih =>
    intro p r
    unfold drf
    by_cases h : (T 0 7).testBit p = true
    · rw [if_pos h, ih]
      constructor
      · rintro ⟨h1, h2, h3⟩; exact ⟨by omega, by omega, h3⟩
      · rintro ⟨h1, h2, h3⟩
        have : r ≠ p := fun e => by rw [e, h] at h3; cases h3
        exact ⟨by omega, by omega, h3⟩
    · rw [if_neg h, List.mem_cons, ih]
      constructor
      · rintro (h1 | ⟨h1, h2, h3⟩)
        · subst h1; exact ⟨Nat.le_refl _, by omega, by simpa using h⟩
        · exact ⟨by omega, by omega, h3⟩
      · rintro ⟨h1, h2, h3⟩
        by_cases e : r = p
        · exact Or.inl e
        · exact Or.inr ⟨by omega, by omega, h3⟩
theorem tb_or (used q r : Nat) : (used ||| 2 ^ q).testBit r = (used.testBit r || q == r) := by
  rw [Nat.testBit_or, Nat.testBit_two_pow]
  by_cases h : q = r
  · simp [h]
  · simp [h]
theorem en_dead {T : Tn} (ok : OkT T) {r : Nat} (hr : r < 8) (h1 : T 1 r ≠ 0) : ∀ (ds : List Nat), r ∈ ds → ∀ used row, used.testBit (T 1 r - 1) = true → en (okp T) ds used row = [] := by
  intro ds
  induction ds with
  | nil => intro h; cases h
  | cons p ds ih =>
    intro hm used row hu
    show cat _ 8 = []
    apply cat_nil
    intro q hq
    by_cases e : r = p
    · subst e
      rw [if_neg]
      unfold okp
      intro h
      have h3 : T 1 r = q + 1 := by
        have : (T 1 r == 0) = false := by simpa using h1
        rw [this] at h
        simp at h
        exact h.1.2
      have h4 : used.testBit q = true := by rw [h3] at hu; exact hu
      rw [h4] at h
      simp at h
    · split
      · refine ih ?_ _ _ ?_
        · rcases List.mem_cons.mp hm with h | h
          · exact absurd h e
          · exact h
        · rw [tb_or, hu]; rfl
      · rfl
theorem okp_told {T : Tn} (ok : OkT T) {p q : Nat} (hp : p < 8) (h1 : T 1 p ≠ 0) : okp T p q = okc T p q := by
  have h := ok.2.1 p hp
  obtain ⟨ha, hb, hc⟩ := h
  obtain ⟨hc1, hc2, hc3⟩ := hc h1
  unfold okp okc
  rw [if_neg h1]
  have e0 : (T 1 p == 0) = false := by simpa using h1
  rw [e0, Bool.false_or]
  by_cases e : T 1 p = q + 1
  · have e2 : q = T 1 p - 1 := by omega
    have e3 : q < T 0 0 := by omega
    have e4 : (T 0 7).testBit q = false := by rw [e2]; exact hc2
    have e5 : (q == p) = false := by simp; omega
    have e6 : (T 1 p == q + 1) = true := by simpa using e
    have e7 : (q == T 1 p - 1) = true := by simpa using e2
    rw [decide_eq_true e3, e4, e5, e6, e7]; rfl
  · have e6 : (T 1 p == q + 1) = false := by simpa using e
    have e7 : (q == T 1 p - 1) = false := by simp; omega
    rw [e6, e7, Bool.and_false]
theorem en_same {T : Tn} (ok : OkT T) : ∀ (ds : List Nat), (∀ r ∈ ds, r < 8) → ∀ used row, (∀ r, r < 8 → T 1 r ≠ 0 → r ∈ ds ∨ used.testBit (T 1 r - 1) = true) → en (okp T) ds used row = en (okc T) ds used row := by
  intro ds
  induction ds with
  | nil => intro _ _ _ _; rfl
  | cons p ds ih =>
    intro h8 used row inv
    have hp : p < 8 := h8 p List.mem_cons_self
    show cat _ 8 = cat _ 8
    apply cat_x
    intro q hq
    have inv' : ∀ q', okp T p q' = true → ∀ r, r < 8 → T 1 r ≠ 0 → r ∈ ds ∨ (used ||| 2 ^ q').testBit (T 1 r - 1) = true := by
      intro q' ho r hr h1
      rcases inv r hr h1 with h | h
      · rcases List.mem_cons.mp h with e | e
        · right
          rw [tb_or]
          subst e
          unfold okp at ho
          have : (T 1 r == 0) = false := by simpa using h1
          rw [this] at ho
          simp at ho
          simp [ho.2]
        · exact Or.inl e
      · right; rw [tb_or, h]; rfl
    by_cases h1 : T 1 p = 0
    · by_cases hd : (T 0 11).testBit q = true
      · have hc : (okc T p q && !used.testBit q) = false := by unfold okc; rw [if_pos h1, hd]; simp
        rw [hc]
        by_cases e : (okp T p q && !used.testBit q) = true
        · rw [if_pos e]
          have h2 := ok.2.2.2.1 q
          rw [hd] at h2
          obtain ⟨r, hr, hr2⟩ := anyb_t.mp h2.symm
          have hr3 : T 1 r = q + 1 := by simpa using hr2
          have e1 : okp T p q = true := by revert e; cases okp T p q <;> simp
          have e2 : used.testBit q = false := by revert e; cases used.testBit q <;> simp
          have hrp : r ≠ p := fun e => by rw [e, h1] at hr3; omega
          rcases inv r hr (by omega) with h | h
          · refine (en_dead ok hr (by omega) ds ?_ _ _ ?_).trans ?_
            · rcases List.mem_cons.mp h with e | e
              · exact absurd e hrp
              · exact e
            · rw [hr3, tb_or]; simp
            · rfl
          · rw [hr3, show q + 1 - 1 = q by omega, e2] at h
            cases h
        · rw [if_neg e]; rfl
      · have hd : (T 0 11).testBit q = false := by simpa using hd
        have hc : okc T p q = okp T p q := by
          unfold okc okp
          rw [if_pos h1, hd, h1]
          simp
          cases decide (q < T 0 0) <;> cases (T 0 7).testBit q <;> cases (q == p) <;> rfl
        rw [hc]
        by_cases e : (okp T p q && !used.testBit q) = true
        · rw [if_pos e, if_pos e]
          have e1 : okp T p q = true := by revert e; cases okp T p q <;> simp
          exact ih (fun r hr => h8 r (List.mem_cons_of_mem _ hr)) _ _ (inv' q e1)
        · rw [if_neg e, if_neg e]
    · rw [okp_told ok hp h1]
      by_cases e : (okc T p q && !used.testBit q) = true
      · rw [if_pos e, if_pos e]
        have e1 : okc T p q = true := by revert e; cases okc T p q <;> simp
        exact ih (fun r hr => h8 r (List.mem_cons_of_mem _ hr)) _ _ (inv' q (by rw [okp_told ok hp h1]; exact e1))
      · rw [if_neg e, if_neg e]
/-- all turnings of a town -/
def EN (T : Tn) : List Nat := en (okc T) (drf T 0 (T 0 0)) 0 (alb T 0 (T 0 0))
theorem EN_p {T : Tn} (ok : OkT T) : en (okp T) (drf T 0 (T 0 0)) 0 (alb T 0 (T 0 0)) = EN T := by
  have hn := ok.1.1
  apply en_same ok
  · intro r hr
    have := drf_mem.mp hr
    omega
  · intro r hr h1
    left
    obtain ⟨h2, h3, h4⟩ := ok.2.1 r hr
    refine drf_mem.mpr ⟨Nat.zero_le _, ?_, (h4 h1).1⟩
    by_cases h : r < 0 + T 0 0
    · exact h
    · exact absurd (h3 (by omega)) h1
/-- no more than 14833 -/
def ok0 (n A p q : Nat) : Bool := decide (q < n) && !(q == p) && !A.testBit q
def dr0 (A : Nat) : Nat → Nat → List Nat
  | _, 0 => []
  | p, k + 1 => if A.testBit p then dr0 A (p + 1) k else p :: dr0 A (p + 1) k
theorem dr0_e (T : Tn) : ∀ k p, drf T p k = dr0 (T 0 7) p k := by
  intro k
  induction k with
  | zero => intro _; rfl
  | succ k ih => intro p; unfold drf dr0; rw [ih]
theorem cn_8 : cn (ok0 8 0) (dr0 0 0 8) 0 = 14833 := by decide +kernel
