/-! ===== rows as digits ===== -/
theorem p16_pos (p : Nat) : 0 < 16 ^ p := Nat.pow_pos (by decide)
theorem nb_add {row p q : Nat} (h0 : nb row p = 0) (hq : q < 16) (p' : Nat) : nb (row + q * 16 ^ p) p' = if p' = p then q else nb row p' := by
  unfold nb at h0 ⊢
  by_cases h : p' = p
  · subst h
    rw [if_pos rfl, Nat.add_mul_div_right _ _ (p16_pos _), Nat.add_mod, h0, Nat.zero_add, Nat.mod_mod, Nat.mod_eq_of_lt hq]
  · rw [if_neg h]
    by_cases h2 : p' < p
    · have e : q * 16 ^ p = 16 * (q * 16 ^ (p - p' - 1)) * 16 ^ p' := by
        have e1 : 16 ^ p = 16 ^ (p - p' - 1) * 16 * 16 ^ p' := by rw [← Nat.pow_succ, ← Nat.pow_add]; congr 1; omega
        rw [e1]
        simp only [Nat.mul_assoc, Nat.mul_comm, Nat.mul_left_comm]
      rw [e, Nat.add_mul_div_right _ _ (p16_pos _), Nat.add_mul_mod_self_left]
    · have h3 : p < p' := by omega
      have e : 16 ^ p' = 16 ^ (p + 1) * 16 ^ (p' - p - 1) := by rw [← Nat.pow_add]; congr 1; omega
      have key : (row + q * 16 ^ p) / 16 ^ (p + 1) = row / 16 ^ (p + 1) := by
        rw [Nat.pow_succ, ← Nat.div_div_eq_div_mul, ← Nat.div_div_eq_div_mul, Nat.add_mul_div_right _ _ (p16_pos _)]
        generalize row / 16 ^ p = a at h0 ⊢
        omega
      rw [e, ← Nat.div_div_eq_div_mul, key, Nat.div_div_eq_div_mul]
theorem nb_0 (p : Nat) : nb 0 p = 0 := by unfold nb; rw [Nat.zero_div]
theorem nb_lt (w p : Nat) : nb w p < 16 := Nat.mod_lt _ (by decide)
theorem nb_alb (T : Tn) : ∀ k p p', nb (alb T p k) p' = if p ≤ p' ∧ p' < p + k ∧ (T 0 7).testBit p' = true then 15 else 0 := by
  intro k
  induction k with
  | zero => intro p p'; rw [if_neg (by omega)]; exact nb_0 p'
  | succ k ih =>
    intro p p'
    unfold alb
    by_cases ha : (T 0 7).testBit p = true
    · rw [if_pos ha, Nat.add_comm, nb_add (by rw [ih, if_neg (by omega)]) (by decide), ih]
      by_cases e : p' = p
      · subst e; rw [if_pos rfl, if_pos ⟨Nat.le_refl _, by omega, ha⟩]
      · rw [if_neg e]
        by_cases h : p + 1 ≤ p' ∧ p' < p + 1 + k ∧ (T 0 7).testBit p' = true
        · rw [if_pos h, if_pos ⟨by omega, by omega, h.2.2⟩]
        · rw [if_neg h, if_neg (fun q => h ⟨by omega, by omega, q.2.2⟩)]
    · rw [if_neg ha, Nat.zero_add, ih]
      by_cases h : p + 1 ≤ p' ∧ p' < p + 1 + k ∧ (T 0 7).testBit p' = true
      · rw [if_pos h, if_pos ⟨by omega, by omega, h.2.2⟩]
      · rw [if_neg h, if_neg (fun q => ?_)]
        have : p' ≠ p := fun e => ha (e ▸ q.2.2)
        exact h ⟨by omega, by omega, q.2.2⟩
theorem cat_mem {α : Type} {g : Nat → List α} {x : α} : ∀ {m : Nat}, x ∈ cat g m ↔ ∃ q, q < m ∧ x ∈ g q := by
  intro m
  induction m with
  | zero => constructor
            · intro h; cases h
            · rintro ⟨q, h, _⟩; omega
  | succ m ih =>
    show x ∈ cat g m ++ g m ↔ _
    rw [List.mem_append, ih]
    constructor
    · rintro (⟨q, h1, h2⟩ | h)
      · exact ⟨q, by omega, h2⟩
      · exact ⟨m, by omega, h⟩
    · rintro ⟨q, h1, h2⟩
      by_cases e : q = m
      · exact Or.inr (e ▸ h2)
      · exact Or.inl ⟨q, by omega, h2⟩
theorem en_mem {ok : Nat → Nat → Bool} : ∀ (ds : List Nat) (used row r : Nat), ds.Nodup → (∀ p ∈ ds, nb row p = 0) → r ∈ en ok ds used row →
    (∀ p, p ∉ ds → nb r p = nb row p) ∧ (∀ p ∈ ds, ok p (nb r p) = true ∧ used.testBit (nb r p) = false ∧ nb r p < 8) ∧ (∀ p ∈ ds, ∀ p' ∈ ds, nb r p = nb r p' → p = p') := by
  intro ds
  induction ds with
  | nil =>
    intro used row r _ _ h
    have h : r = row := by simpa [en] using h
    subst h
    exact ⟨fun _ _ => rfl, fun _ h => absurd h (by simp), fun _ h => absurd h (by simp)⟩
  | cons p ds ih =>
    intro used row r hd h0 h
    obtain ⟨q, hq, h⟩ := cat_mem.mp h
    by_cases e : (ok p q && !used.testBit q) = true
    · rw [if_pos e] at h
      have e1 : ok p q = true := by revert e; cases ok p q <;> simp
      have e2 : used.testBit q = false := by revert e; cases used.testBit q <;> simp
      have hp0 := h0 p List.mem_cons_self
      have hn := List.nodup_cons.mp hd
      have key := fun p' => nb_add (q := q) hp0 (by omega) p'
      obtain ⟨i1, i2, i3⟩ := ih (used ||| 2 ^ q) (row + q * 16 ^ p) r hn.2 (fun p' hp' => by
        rw [key, if_neg (show ¬ p' = p from fun e => hn.1 (e ▸ hp'))]
        exact h0 p' (List.mem_cons_of_mem _ hp')) h
      have hpq : nb r p = q := by rw [i1 p hn.1, key, if_pos rfl]
      have i4 : ∀ p' ∈ ds, nb r p' ≠ q := fun p' hp' he => by
        have := (i2 p' hp').2.1
        rw [he, tb_or] at this
        simp at this
      refine ⟨fun p' hp' => ?_, fun p' hp' => ?_, fun a ha b hb hab => ?_⟩
      · have h1 : p' ≠ p := fun e => hp' (e ▸ List.mem_cons_self)
        rw [i1 p' (fun h => hp' (List.mem_cons_of_mem _ h)), key, if_neg h1]
      · rcases List.mem_cons.mp hp' with e | e
        · subst e; rw [hpq]; exact ⟨e1, e2, hq⟩
        · obtain ⟨j1, j2, j3⟩ := i2 p' e
          rw [tb_or] at j2
          exact ⟨j1, by revert j2; cases used.testBit (nb r p') <;> simp, j3⟩
      · rcases List.mem_cons.mp ha with ea | ea
        · rcases List.mem_cons.mp hb with eb | eb
          · rw [ea, eb]
          · rw [ea, hpq] at hab; exact absurd hab.symm (i4 b eb)
        · rcases List.mem_cons.mp hb with eb | eb
          · rw [eb, hpq] at hab; exact absurd hab (i4 a ea)
          · exact i3 a ea b eb hab
    · rw [if_neg e] at h; cases h
theorem drf_nodup (T : Tn) : ∀ k p, (drf T p k).Nodup := by
  intro k
  induction k with
  | zero => intro p; exact List.nodup_nil
  | succ k ih =>
    intro p
    unfold drf
    split
    · exact ih _
    · exact List.nodup_cons.mpr ⟨fun h => by have := drf_mem.mp h; omega, ih _⟩
/-- whom each dreams by a row -/
def dT (T : Tn) (r : Nat) : Nat → Nat := fun p => if p < T 0 0 then nb r p else 15
theorem okc_lt {T : Tn} (ok : OkT T) {p q : Nat} (hp : p < 8) (h : okc T p q = true) : q < T 0 0 ∧ (T 0 7).testBit q = false ∧ q ≠ p := by
  unfold okc at h
  by_cases e : T 1 p = 0
  · rw [if_pos e] at h
    simp at h
    exact ⟨h.1.1.1, h.1.1.2, h.2⟩
  · rw [if_neg e] at h
    have h : q = T 1 p - 1 := by simpa using h
    obtain ⟨h1, h2, h3⟩ := ok.2.1 p hp
    obtain ⟨h4, h5, h6⟩ := h3 e
    exact ⟨by omega, by rw [h]; exact h5, by omega⟩
theorem en_row0 (T : Tn) : ∀ p ∈ drf T 0 (T 0 0), nb (alb T 0 (T 0 0)) p = 0 := by
  intro p hp
  have h := drf_mem.mp hp
  rw [nb_alb, if_neg (fun q => by rw [h.2.2] at q; exact absurd q.2.2 (by decide))]
theorem EN_dig {T : Tn} (ok : OkT T) {r : Nat} (h : r ∈ EN T) : (∀ p, p < T 0 0 → (T 0 7).testBit p = true → nb r p = 15) ∧ (∀ p, T 0 0 ≤ p → nb r p = 0) ∧ (∀ p, p < T 0 0 → (T 0 7).testBit p = false → okc T p (nb r p) = true ∧ nb r p < 8) ∧ (∀ p q, p < T 0 0 → q < T 0 0 → (T 0 7).testBit p = false → (T 0 7).testBit q = false → nb r p = nb r q → p = q) := by
  have hn := ok.1.1
  obtain ⟨h1, h2, h3⟩ := en_mem _ 0 _ r (drf_nodup T _ _) (en_row0 T) h
  refine ⟨fun p hp ha => ?_, fun p hp => ?_, fun p hp ha => ?_, fun p q hp hq ha hb he => ?_⟩
  · rw [h1 p (fun q => by rw [(drf_mem.mp q).2.2] at ha; cases ha), nb_alb, if_pos ⟨Nat.zero_le _, by omega, ha⟩]
  · rw [h1 p (fun q => by have := drf_mem.mp q; omega), nb_alb, if_neg (by omega)]
  · have := h2 p (drf_mem.mpr ⟨Nat.zero_le _, by omega, ha⟩)
    exact ⟨this.1, this.2.2⟩
  · exact h3 p (drf_mem.mpr ⟨Nat.zero_le _, by omega, ha⟩) q (drf_mem.mpr ⟨Nat.zero_le _, by omega, hb⟩) he
theorem okd_EN {T : Tn} (ok : OkT T) {r : Nat} (h : r ∈ EN T) : OkD (T 0 0) (dT T r) := by
  have hn := ok.1.1
  obtain ⟨h1, h2, h3, h4⟩ := EN_dig ok h
  have hdr : ∀ p, p < T 0 0 → (T 0 7).testBit p = false → nb r p < T 0 0 ∧ nb r p ≠ p := fun p hp ha => by
    have := okc_lt ok (by omega) (h3 p hp ha).1
    exact ⟨this.1, this.2.2⟩
  refine ⟨fun p => ?_, fun p hp => if_neg (by omega), fun p q he hne => ?_, fun p hp => ?_⟩
  · unfold dT
    by_cases hp : p < T 0 0
    · rw [if_pos hp]
      by_cases ha : (T 0 7).testBit p = true
      · exact Or.inr (h1 p hp ha)
      · exact Or.inl (hdr p hp (by simpa using ha)).1
    · rw [if_neg hp]; exact Or.inr rfl
  · unfold dT at he hne
    by_cases hp : p < T 0 0
    · rw [if_pos hp] at he hne
      have ha : (T 0 7).testBit p = false := by
        cases hx : (T 0 7).testBit p with
        | false => rfl
        | true => exact absurd (h1 p hp hx) hne
      have hp2 := (hdr p hp ha).1
      by_cases hq : q < T 0 0
      · rw [if_pos hq] at he
        have hb : (T 0 7).testBit q = false := by
          cases hx : (T 0 7).testBit q with
          | false => rfl
          | true => have := h1 q hq hx; omega
        exact h4 p q hp hq ha hb he
      · rw [if_neg hq] at he; omega
    · rw [if_neg hp] at hne; exact absurd rfl hne
  · unfold dT
    rw [if_pos hp]
    by_cases ha : (T 0 7).testBit p = true
    · rw [h1 p hp ha]; omega
    · exact (hdr p hp (by simpa using ha)).2
/-- a number of eight digits -/
def dg (d : Nat → Nat) : Nat → Nat
  | 0 => 0
  | n + 1 => dg d n + d n * 16 ^ n
theorem dg_lt {d : Nat → Nat} (h : ∀ p, d p < 16) : ∀ n, dg d n < 16 ^ n := by
  intro n
  induction n with
  | zero => exact Nat.one_pos
  | succ n ih =>
    show dg d n + d n * 16 ^ n < 16 ^ (n + 1)
    have h1 := h n
    have h2 : d n * 16 ^ n ≤ 15 * 16 ^ n := Nat.mul_le_mul_right _ (by omega)
    rw [Nat.pow_succ]
    omega
theorem dg_x {d d' : Nat → Nat} {n : Nat} (h : ∀ p, p < n → d p = d' p) : dg d n = dg d' n := by
  induction n with
  | zero => rfl
  | succ n ih => show dg d n + _ = dg d' n + _; rw [ih (fun p hp => h p (by omega)), h n (by omega)]
theorem nb_high {w n p : Nat} (h : w < 16 ^ n) (hp : n ≤ p) : nb w p = 0 := by
  unfold nb
  rw [Nat.div_eq_of_lt (Nat.lt_of_lt_of_le h (Nat.pow_le_pow_right (by decide) hp))]
theorem nb_dg {d : Nat → Nat} (h : ∀ p, d p < 16) : ∀ n p, nb (dg d n) p = if p < n then d p else 0 := by
  intro n
  induction n with
  | zero => intro p; rw [if_neg (by omega)]; exact nb_0 p
  | succ n ih =>
    intro p
    show nb (dg d n + d n * 16 ^ n) p = _
    rw [nb_add (nb_high (dg_lt h n) (Nat.le_refl _)) (h n), ih]
    by_cases e : p = n
    · subst e; rw [if_pos rfl, if_pos (by omega)]
    · rw [if_neg e]
      by_cases h2 : p < n
      · rw [if_pos h2, if_pos (by omega)]
      · rw [if_neg h2, if_neg (by omega)]
theorem dg_nb : ∀ n w, w < 16 ^ n → dg (nb w) n = w := by
  intro n
  induction n with
  | zero => intro w h; show 0 = w; simp at h; omega
  | succ n ih =>
    intro w h
    show dg (nb w) n + nb w n * 16 ^ n = w
    have h1 : dg (nb w) n = dg (nb (w % 16 ^ n)) n := by
      apply dg_x
      intro p hp
      unfold nb
      have e : 16 ^ n = 16 ^ p * 16 ^ (n - p) := by rw [← Nat.pow_add]; congr 1; omega
      have e2 : 16 ^ (n - p) = 16 * 16 ^ (n - p - 1) := by rw [Nat.mul_comm, ← Nat.pow_succ]; congr 1; omega
      rw [e, Nat.mod_mul_right_div_self, e2, Nat.mod_mul_right_mod]
    rw [h1, ih _ (Nat.mod_lt _ (p16_pos n))]
    have h2 : w / 16 ^ n < 16 := by rw [Nat.div_lt_iff_lt_mul (p16_pos n), Nat.mul_comm, ← Nat.pow_succ]; exact h
    unfold nb
    rw [Nat.mod_eq_of_lt h2]
    have := Nat.mod_add_div w (16 ^ n)
    rw [Nat.mul_comm] at this
    exact this
theorem nb_inj {n w w' : Nat} (h : w < 16 ^ n) (h' : w' < 16 ^ n) (he : ∀ p, p < n → nb w p = nb w' p) : w = w' := by
  rw [← dg_nb n w h, ← dg_nb n w' h']
  exact dg_x he
