/-! ===== towns, in the abstract ===== -/
/-- row 0: people, facts, talks, naps, law, year, dulls, alone, deep, wishes, traded, dreamt, clauses; 1 whom each is told to dream (plus one); 2 3 facts; 4 5 6 talks; 7 8 naps; 9 10 11 dulls; 12 13 14 15 wishes (who, fact, day, hides); 16 trades -/
abbrev Tn : Type := Nat → Nat → Nat
def anyb (f : Nat → Bool) : Nat → Bool
  | 0 => false
  | n + 1 => anyb f n || f n
theorem anyb_t {f : Nat → Bool} {n : Nat} : anyb f n = true ↔ ∃ i, i < n ∧ f i = true := by
  induction n with
  | zero => exact ⟨fun h => by { cases h }, fun ⟨i, h, _⟩ => absurd h (by omega)⟩
  | succ n ih =>
    show (anyb f n || f n) = true ↔ _
    rw [Bool.or_eq_true, ih]
    constructor
    · rintro (⟨i, h1, h2⟩ | h)
      · exact ⟨i, by omega, h2⟩
      · exact ⟨n, by omega, h⟩
    · rintro ⟨i, h1, h2⟩
      by_cases h : i = n
      · exact Or.inr (h ▸ h2)
      · exact Or.inl ⟨i, by omega, h2⟩
theorem anyb_f {f : Nat → Bool} {n : Nat} : anyb f n = false ↔ ∀ i, i < n → f i = false := by
  rw [← Bool.not_eq_true, anyb_t]
  constructor
  · intro h i hi
    cases hf : f i with
    | false => rfl
    | true => exact absurd ⟨i, hi, hf⟩ h
  · rintro h ⟨i, hi, hf⟩
    rw [h i hi] at hf
    cases hf
/-- the first hit -/
def ffr (p : Nat → Bool) : Nat → Nat → Option Nat
  | _, 0 => none
  | i, k + 1 => if p i then some i else ffr p (i + 1) k
def ff (p : Nat → Bool) (n : Nat) : Option Nat := ffr p 0 n
theorem ffr_some {p : Nat → Bool} {k i j : Nat} : ffr p i k = some j ↔ i ≤ j ∧ j < i + k ∧ p j = true ∧ ∀ l, i ≤ l → l < j → p l = false := by
  induction k generalizing i with
  | zero => exact ⟨fun h => (by cases h), fun ⟨h1, h2, _⟩ => by omega⟩
  | succ k ih =>
    show (if p i then some i else ffr p (i + 1) k) = some j ↔ _
    by_cases hp : p i
    · rw [if_pos hp]
      constructor
      · intro h
        cases h
        exact ⟨Nat.le_refl _, by omega, hp, fun l h1 h2 => by omega⟩
      · rintro ⟨h1, h2, h3, h4⟩
        by_cases e : i = j
        · rw [e]
        · have := h4 i (Nat.le_refl _) (by omega)
          rw [hp] at this
          cases this
    · rw [if_neg hp, ih]
      constructor
      · rintro ⟨h1, h2, h3, h4⟩
        refine ⟨by omega, by omega, h3, fun l h5 h6 => ?_⟩
        by_cases e : l = i
        · rw [e]; exact Bool.not_eq_true _ ▸ hp
        · exact h4 l (by omega) h6
      · rintro ⟨h1, h2, h3, h4⟩
        have : i ≠ j := fun e => hp (e ▸ h3)
        exact ⟨by omega, by omega, h3, fun l h5 h6 => h4 l (by omega) h6⟩
theorem ff_some {p : Nat → Bool} {n j : Nat} : ff p n = some j ↔ j < n ∧ p j = true ∧ ∀ l, l < j → p l = false := by
  unfold ff
  rw [ffr_some]
  exact ⟨fun ⟨_, h2, h3, h4⟩ => ⟨by omega, h3, fun l h => h4 l (by omega) h⟩, fun ⟨h2, h3, h4⟩ => ⟨by omega, by omega, h3, fun l _ h => h4 l h⟩⟩
theorem ffr_none {p : Nat → Bool} {k i : Nat} : ffr p i k = none ↔ ∀ l, i ≤ l → l < i + k → p l = false := by
  induction k generalizing i with
  | zero => exact ⟨fun _ l h1 h2 => by omega, fun _ => rfl⟩
  | succ k ih =>
    show (if p i then some i else ffr p (i + 1) k) = none ↔ _
    by_cases hp : p i
    · rw [if_pos hp]
      exact ⟨fun h => (by cases h), fun h => by have := h i (Nat.le_refl _) (by omega); rw [hp] at this; cases this⟩
    · rw [if_neg hp, ih]
      constructor
      · intro h l h1 h2
        by_cases e : l = i
        · rw [e]; exact Bool.not_eq_true _ ▸ hp
        · exact h l (by omega) (by omega)
      · intro h l h1 h2
        exact h l (by omega) (by omega)
theorem ff_none {p : Nat → Bool} {n : Nat} : ff p n = none ↔ ∀ l, l < n → p l = false := by
  unfold ff
  rw [ffr_none]
  exact ⟨fun h l h1 => h l (by omega) (by omega), fun h l _ h1 => h l (by omega)⟩
theorem ff_x {p q : Nat → Bool} {n : Nat} (h : ∀ i, i < n → p i = q i) : ff p n = ff q n := by
  cases e : ff q n with
  | none => exact ff_none.mpr (fun l hl => by rw [h l hl]; exact ff_none.mp e l hl)
  | some j =>
    obtain ⟨h1, h2, h3⟩ := ff_some.mp e
    exact ff_some.mpr ⟨h1, by rw [h j h1]; exact h2, fun l hl => by rw [h l (by omega)]; exact h3 l hl⟩
/-! loops -/
theorem whl_c {σ β : Type} {body : σ → Option (σ ⊕ β)} (n : Nat) (st : Nat → σ) {s0 : σ} {b : β} (h0 : s0 = st 0) (hs : ∀ i, i < n → body (st i) = some (.inl (st (i + 1)))) (he : body (st n) = some (.inr b)) : whl body s0 = some b := by
  rw [h0]
  exact whl_n n st hs he
def fo {β : Type} (o : Nat → β) (b : β) : Option Nat → β
  | some i => o i
  | none => b
theorem whl_f {σ β : Type} {body : σ → Option (σ ⊕ β)} (n : Nat) (st : Nat → σ) (p : Nat → Bool) (o : Nat → β) {s0 : σ} {b : β} (h0 : s0 = st 0) (hs : ∀ i, i < n → p i = false → body (st i) = some (.inl (st (i + 1)))) (hp : ∀ i, i < n → p i = true → body (st i) = some (.inr (o i))) (he : body (st n) = some (.inr b)) : whl body s0 = some (fo o b (ff p n)) := by
  rw [h0]
  have key : ∀ k i, i + k = n → whl body (st i) = some (fo o b (ffr p i k)) := by
    intro k
    induction k with
    | zero =>
      intro i hi
      have : i = n := by omega
      rw [this]
      exact whl_r he
    | succ k ih =>
      intro i hi
      show _ = some (fo o b (if p i then some i else ffr p (i + 1) k))
      by_cases h : p i
      · rw [if_pos h]
        exact whl_r (hp i (by omega) h)
      · rw [if_neg h, whl_l (hs i (by omega) (Bool.not_eq_true _ ▸ h))]
        exact ih (i + 1) (by omega)
  exact key n 0 (by omega)
theorem whl_b {σ β γ : Type} {body : σ → Option (σ ⊕ β)} (n : Nat) (st : Nat → σ) {s0 : σ} {b : β} {g : β → Option γ} (h0 : s0 = st 0) (hs : ∀ i, i < n → body (st i) = some (.inl (st (i + 1)))) (he : body (st n) = some (.inr b)) : (whl body s0).bind g = g b := by
  rw [whl_c n st h0 hs he]
  rfl
theorem whl_fb {σ β γ : Type} {body : σ → Option (σ ⊕ β)} (n : Nat) (st : Nat → σ) (p : Nat → Bool) (o : Nat → β) {s0 : σ} {b : β} {g : β → Option γ} (h0 : s0 = st 0) (hs : ∀ i, i < n → p i = false → body (st i) = some (.inl (st (i + 1)))) (hp : ∀ i, i < n → p i = true → body (st i) = some (.inr (o i))) (he : body (st n) = some (.inr b)) : (whl body s0).bind g = g (fo o b (ff p n)) := by
  rw [whl_f n st p o h0 hs hp he]
  rfl
/-- dull on that day -/
def dl (T : Tn) (p day : Nat) : Bool := anyb (fun k => T 9 k == p && decide (T 10 k ≤ day) && decide (day ≤ T 11 k)) (T 0 6)
def OkT (T : Tn) : Prop :=
  (T 0 0 ≤ 8 ∧ T 0 1 ≤ 12 ∧ T 0 2 ≤ 8 ∧ T 0 3 ≤ 8 ∧ T 0 4 < 4096 ∧ 1 ≤ T 0 5 ∧ T 0 5 ≤ 28 ∧ T 0 6 ≤ 8 ∧ T 0 7 < 2 ^ T 0 0 ∧ T 0 8 < 4096 ∧ T 0 9 ≤ 8 ∧ T 0 10 < 256 ∧ T 0 11 < 256 ∧ T 0 12 ≤ 900) ∧
  (∀ p, p < 8 → T 1 p ≤ T 0 0 ∧ (T 0 0 ≤ p → T 1 p = 0) ∧ (T 1 p ≠ 0 → (T 0 7).testBit p = false ∧ (T 0 7).testBit (T 1 p - 1) = false ∧ T 1 p ≠ p + 1)) ∧
  (∀ p q, p < 8 → q < 8 → T 1 p ≠ 0 → T 1 p = T 1 q → p = q) ∧ (∀ q, (T 0 11).testBit q = anyb (fun p => T 1 p == q + 1) 8) ∧
  (∀ i, i < T 0 1 → T 2 i < T 0 0 ∧ T 3 i < 28) ∧ (∀ i, i < T 0 2 → T 4 i < T 0 0 ∧ T 5 i < T 0 0 ∧ T 4 i ≠ T 5 i ∧ 1 ≤ T 6 i ∧ T 6 i ≤ 28) ∧
  (∀ i, i < T 0 3 → T 7 i < T 0 0 ∧ T 8 i < 28) ∧ (∀ i, i < T 0 6 → T 9 i < T 0 0 ∧ T 10 i ≤ T 11 i ∧ T 11 i < 28) ∧
  (∀ i, i < T 0 9 → T 12 i < T 0 0 ∧ T 13 i < 12 ∧ T 14 i < 28 ∧ T 15 i ≤ 1) ∧ (∀ p, p < 8 → T 16 p < 100)
/-- the class's town at c tells T -/
def CTn (c : Nat) (T : Tn) (μ : Mm) : Prop :=
  (mm_I μ c 9 = nI (T 0 0) ∧ mm_I μ c 10 = nI (T 0 7) ∧ mm_I μ c 11 = nI (T 0 11) ∧ mm_I μ c 12 = nI (T 0 10) ∧ mm_I μ c 13 = nI (T 0 4) ∧ mm_I μ c 14 = nI (T 0 8) ∧ mm_I μ c 15 = nI (T 0 5) ∧ mm_I μ c 16 = nI (T 0 12)) ∧
  (mm_I μ (c + 4) 1 = nI (T 0 1) ∧ mm_I μ (c + 6) 1 = nI (T 0 2) ∧ mm_I μ (c + 8) 1 = nI (T 0 3) ∧ mm_I μ (c + 10) 1 = nI (T 0 6) ∧ mm_I μ (c + 12) 1 = nI (T 0 9)) ∧
  (∀ i, i < T 0 1 → mm_I μ (c + 5) (4 * i) = nI (T 2 i) ∧ mm_I μ (c + 5) (4 * i + 1) = nI (T 3 i)) ∧
  (∀ i, i < T 0 2 → mm_I μ (c + 7) (4 * i) = nI (T 4 i) ∧ mm_I μ (c + 7) (4 * i + 1) = nI (T 5 i) ∧ mm_I μ (c + 7) (4 * i + 2) = nI (T 6 i)) ∧
  (∀ i, i < T 0 3 → mm_I μ (c + 9) (4 * i) = nI (T 7 i) ∧ mm_I μ (c + 9) (4 * i + 1) = nI (T 8 i)) ∧
  (∀ i, i < T 0 6 → mm_I μ (c + 11) (4 * i) = nI (T 9 i) ∧ mm_I μ (c + 11) (4 * i + 1) = nI (T 10 i) ∧ mm_I μ (c + 11) (4 * i + 2) = nI (T 11 i)) ∧
  (∀ i, i < T 0 9 → mm_I μ (c + 13) (4 * i) = nI (1 - T 15 i) ∧ mm_I μ (c + 13) (4 * i + 1) = nI (T 12 i) ∧ mm_I μ (c + 13) (4 * i + 2) = nI (T 13 i) ∧ mm_I μ (c + 13) (4 * i + 3) = nI (T 14 i)) ∧
  (∀ p, p < 8 → mm_I μ (c + 2) p = if T 1 p = 0 then -1 else nI (T 1 p - 1)) ∧ (∀ p, p < 8 → mm_I μ (c + 3) p = nI (T 16 p))
/-- the reference at M tells T (o: 0 its town, 1 its draft) -/
def MTn (M o : Nat) (T : Tn) (μ : Mm) : Prop :=
  (∀ j, j < 11 → mm_I μ (M + 2) (11 * o + j) = nI (T 0 j)) ∧ (∀ p, p < 8 → mm_I μ (M + 4) (8 * o + p) = nI (T 1 p)) ∧
  (∀ i, i < T 0 1 → mm_I μ (M + 5) (12 * o + i) = nI (T 2 i) ∧ mm_I μ (M + 6) (12 * o + i) = nI (T 3 i)) ∧
  (∀ i, i < T 0 2 → mm_I μ (M + 7) (8 * o + i) = nI (T 4 i) ∧ mm_I μ (M + 8) (8 * o + i) = nI (T 5 i) ∧ mm_I μ (M + 9) (8 * o + i) = nI (T 6 i)) ∧
  (∀ i, i < T 0 3 → mm_I μ (M + 10) (8 * o + i) = nI (T 7 i) ∧ mm_I μ (M + 11) (8 * o + i) = nI (T 8 i)) ∧
  (∀ i, i < T 0 6 → mm_I μ (M + 12) (8 * o + i) = nI (T 9 i) ∧ mm_I μ (M + 13) (8 * o + i) = nI (T 10 i) ∧ mm_I μ (M + 14) (8 * o + i) = nI (T 11 i)) ∧
  (∀ i, i < T 0 9 → mm_I μ (M + 15) (8 * o + i) = nI (T 12 i) ∧ mm_I μ (M + 16) (8 * o + i) = nI (T 13 i) ∧ mm_I μ (M + 17) (8 * o + i) = nI (T 14 i) ∧ mm_I μ (M + 18) (8 * o + i) = nI (T 15 i)) ∧
  (∀ p, p < 8 → mm_I μ (M + 19) (8 * o + p) = nI (T 16 p))
/-! one fact's knowers, step by step: κ p tells whether p knows it; d p whom p dreams (15: nobody); u q whether q is dull on that day -/
def c_own (T : Tn) (f day : Nat) (κ : Nat → Bool) : Nat → Bool := fun p => κ p || (T 3 f == day && T 2 f == p)
def c_nap (T : Tn) (d : Nat → Nat) (u : Nat → Bool) (day k : Nat) (κ : Nat → Bool) : Nat → Bool := fun p => κ p || (decide (k < T 0 3) && T 8 k == day && T 7 k == p && !(d p == 15) && !u (d p) && κ (d p))
def c_naps (T : Tn) (d : Nat → Nat) (u : Nat → Bool) (day : Nat) (κ : Nat → Bool) : Nat → Nat → Bool
  | 0 => κ
  | k + 1 => c_nap T d u day k (c_naps T d u day κ k)
def c_talk (T : Tn) (day k : Nat) (κ : Nat → Bool) : Nat → Bool := fun p => κ p || (decide (k < T 0 2) && day % T 6 k == 0 && (p == T 4 k || p == T 5 k) && (κ (T 4 k) || κ (T 5 k)))
/-- m talks from the a-th on -/
def c_tr (T : Tn) (day a : Nat) (κ : Nat → Bool) : Nat → Nat → Bool
  | 0 => κ
  | k + 1 => c_talk T day (a + k) (c_tr T day a κ k)
def c_talks (T : Tn) (day : Nat) (κ : Nat → Bool) (k : Nat) : Nat → Bool := c_tr T day 0 κ k
def c_nit (d : Nat → Nat) (u : Nat → Bool) (κ : Nat → Bool) : Nat → Bool := fun p => κ p || (!(d p == 15) && !u (d p) && κ (d p))
/-- by day; w: by which ways (0 nights, 1 talks, 2 naps) -/
def c_np (T : Tn) (d : Nat → Nat) (w u : Nat → Bool) (f day : Nat) (κ : Nat → Bool) : Nat → Bool := if (w 2 && !(T 0 8).testBit f) then c_naps T d u day κ 8 else κ
def c_tk (T : Tn) (w : Nat → Bool) (f day : Nat) (κ : Nat → Bool) : Nat → Bool := if (w 1 && !(T 0 4).testBit f) then c_talks T day κ 8 else κ
def c_day (T : Tn) (d : Nat → Nat) (w u : Nat → Bool) (f day : Nat) (κ : Nat → Bool) : Nat → Bool := c_tk T w f day (c_np T d w u f day (c_own T f day κ))
def c_ngt (T : Tn) (d : Nat → Nat) (w u : Nat → Bool) (f : Nat) (κ : Nat → Bool) : Nat → Bool := if (w 0 && !(T 0 8).testBit f) then c_nit d u κ else κ
/-- behind so many days; us: who is dull always -/
def c_beh (T : Tn) (d : Nat → Nat) (w us : Nat → Bool) (f : Nat) : Nat → Nat → Bool
  | 0 => fun _ => false
  | day + 1 => c_ngt T d w (fun q => dl T q day || us q) f (c_day T d w (fun q => dl T q day || us q) f day (c_beh T d w us f day))
def c_ahd (T : Tn) (d : Nat → Nat) (w us : Nat → Bool) (f day : Nat) : Nat → Bool := c_day T d w (fun q => dl T q day || us q) f day (c_beh T d w us f day)
/-- a turning of n people: whom each dreams -/
def OkD (n : Nat) (d : Nat → Nat) : Prop := (∀ p, d p < n ∨ d p = 15) ∧ (∀ p, n ≤ p → d p = 15) ∧ (∀ p q, d p = d q → d p ≠ 15 → p = q) ∧ (∀ p, p < n → d p ≠ p)
def dI (q : Nat) : Int32 := if q = 15 then -1 else nI q
/-! the class's Spread -/
def SpT (X c : Nat) (T : Tn) (μ : Mm) : Prop := mm_P μ (X + 58) 7 = some c ∧
  (∀ day, day < 28 → mm_I μ (X + 59) day = nI (bm (fun p => dl T p day) 8) ∧ mm_I μ (X + 60) day = nI (bm (fun k => decide (k < T 0 3) && T 8 k == day) 8) ∧ mm_I μ (X + 61) day = nI (bm (fun k => decide (k < T 0 2) && day % T 6 k == 0) 8)) ∧
  (∀ k, k < T 0 3 → mm_I μ (X + 64) k = nI (T 7 k)) ∧ (∀ k, k < T 0 2 → mm_I μ (X + 65) k = nI (bm (fun p => p == T 4 k || p == T 5 k) 8))
def SpD (X : Nat) (d : Nat → Nat) (μ : Mm) : Prop := (∀ p, p < 8 → mm_I μ (X + 62) p = dI (d p)) ∧ (∀ q, q < 8 → mm_I μ (X + 63) q = nI (bm (fun p => d p == q) 8))
def SpF (X : Nat) (T : Tn) (f : Nat) (w us : Nat → Bool) (μ : Mm) : Prop := mm_I μ (X + 58) 8 = nI (T 3 f) ∧ mm_I μ (X + 58) 9 = nI (2 ^ T 2 f) ∧ mm_I μ (X + 58) 10 = nI (bm us 8) ∧ mm_I μ (X + 58) 11 = nI (w 0 && !(T 0 8).testBit f).toNat ∧ mm_I μ (X + 58) 12 = nI (w 1 && !(T 0 4).testBit f).toNat ∧ mm_I μ (X + 58) 13 = nI (w 2 && !(T 0 8).testBit f).toNat
theorem e_byItself {X f day : Nat} {T : Tn} {w us κ : Nat → Bool} {μ : Mm} (h : Sh X μ) (hF : SpF X T f w us μ) (hf : T 2 f < 8) (hd : day < 28) (h3 : T 3 f < 28) : f_X4_byItself (X + 58) (nI (bm κ 8)) (nI day) μ = some (nI (bm (c_own T f day κ) 8)) := by
  obtain ⟨h8, h9, -⟩ := hF
  unfold f_X4_byItself
  simp only [kt_58 h, rf_58 h, ob, if_true, h8, h9]
  by_cases e : day = T 3 f
  · rw [if_pos (by rw [e]), nI_or, bm_set _ hf]
    congr 2
    apply bm_x
    intro p hp
    show _ = (κ p || (T 3 f == day && T 2 f == p))
    rw [e]
    grind
  · rw [if_neg (by rw [nI_eq_i (by omega) (by omega)]; exact e)]
    congr 2
    apply bm_x
    intro p hp
    show _ = (κ p || (T 3 f == day && T 2 f == p))
    have : (T 3 f == day) = false := by simp; omega
    rw [this]
    simp
theorem bz_n (p : Prop) [Decidable p] : bz p = nI (decide p).toNat := by
  unfold bz
  by_cases h : p
  · rw [if_pos h, decide_eq_true h]; rfl
  · rw [if_neg h, decide_eq_false h]; rfl
theorem dI_neg {q : Nat} (h : q < 8 ∨ q = 15) : (dI q = (-1 : Int32)) = (q = 15) := by
  unfold dI
  by_cases e : q = 15
  · rw [if_pos e]; simp [e]
  · rw [if_neg e]
    have h2 : q < 8 := by omega
    have : ∀ q, q < 8 → ¬ (nI q = (-1 : Int32)) := by decide +kernel
    simp [e, this q h2]
theorem e_byNaps {X c f day : Nat} {T : Tn} {d : Nat → Nat} {w us κ : Nat → Bool} {μ : Mm} (h : Sh X μ) (ok : OkT T) (od : OkD (T 0 0) d) (hT : SpT X c T μ) (hD : SpD X d μ) (hF : SpF X T f w us μ) (hd : day < 28) : f_X4_byNaps (X + 58) (nI (bm κ 8)) (nI day) μ = some (nI (bm (c_np T d w (fun q => dl T q day || us q) f day κ) 8)) := by
  obtain ⟨-, -, h10, -, -, h13⟩ := hF
  obtain ⟨-, hT2, hT3, -⟩ := hT
  obtain ⟨g1, g2, -⟩ := hT2 day hd
  have hn := ok.1.2.2.2.1
  have hn0 := ok.1.1
  have hw := ok.2.2.2.2.2.2.1
  unfold f_X4_byNaps
  simp only [kt_58 h, rf_58 h, rp_58_1 h, rp_58_0 h, ob, if_true, h13, h10, nI_b0, ra_60 h hd, ra_59 h hd, g1, g2, nI_or, bm_or, nI_z (bm_31 _ (by decide : 8 ≤ 31)), bm_z]
  unfold c_np
  by_cases e1 : (w 2 && !(T 0 8).testBit f) = true
  · rw [if_neg (by rw [e1]; decide), if_neg (show ¬ nI day < 0 from nI_pos (by omega)), if_neg (show ¬ (28 : Int32) ≤ nI day by rw [show (28 : Int32) = nI 28 from rfl, nI_le_i (by omega) (by omega)]; omega), if_pos e1]
    by_cases e2 : ∀ i, i < 8 → (decide (i < T 0 3) && T 8 i == day) = false
    · rw [if_pos e2]
      have key : ∀ k, k ≤ 8 → c_naps T d (fun q => dl T q day || us q) day κ k = κ := by
        intro k
        induction k with
        | zero => intro _; rfl
        | succ k ih =>
          intro hk
          show c_nap _ _ _ _ _ (c_naps _ _ _ _ _ _) = _
          rw [ih (by omega)]
          funext p
          show (κ p || _) = κ p
          rw [e2 k (by omega)]
          simp
      rw [key 8 (by decide)]
    · rw [if_neg e2]
      refine whl_b 8 (fun i => (nI (bm (c_naps T d (fun q => dl T q day || us q) day κ i) 8), nI i)) (b := nI (bm (c_naps T d (fun q => dl T q day || us q) day κ 8) 8)) rfl (fun i hi => ?_) ?_
      · simp only [f_X4_byNaps_L46, f_X4_byNaps_J84, f_X4_byNaps_J142, rp_58_1 h, rp_58_5 h, rp_58_3 h, ln_64 h, ln_62 h, ob, ra_60 h hd, ra_64 h hi, g2, bmb hi (by decide : 8 ≤ 31), nI_b0, nI_1]
        rw [if_neg (by rw [nI_le_i (by omega) (by omega)]; omega)]
        by_cases e3 : (decide (i < T 0 3) && T 8 i == day) = true
        · have e4 : i < T 0 3 := by grind
          have hq := (hw i e4).1
          rw [if_neg (by rw [e3]; decide), if_neg (by decide), hT3 i e4, if_neg (show ¬ nI (T 7 i) < 0 from nI_pos (by omega)), if_neg (show ¬ nI 8 ≤ nI (T 7 i) by rw [nI_le_i (by omega) (by omega)]; omega)]
          rw [ra_62 h (by omega : T 7 i < 8), ob, hD.1 _ (by omega)]
          simp only [dI_neg ((od.1 (T 7 i)).imp (fun q => by omega) id)]
          by_cases e5 : d (T 7 i) = 15
          · rw [if_pos e5]
            congr 5
            funext p
            show _ = (_ || _)
            grind
          · have e6 : d (T 7 i) < 8 := by have := od.1 (T 7 i); omega
            have e7 : dI (d (T 7 i)) = nI (d (T 7 i)) := if_neg e5
            rw [if_neg e5, e7, b_andn _ _ (by decide), bmb e6 (by decide)]
            simp only [nI_b0, b_one (by omega : T 7 i < 32), nI_or, bm_set _ (by omega : T 7 i < 8)]
            by_cases e8 : (c_naps T d (fun q => dl T q day || us q) day κ i (d (T 7 i)) && !(dl T (d (T 7 i)) day || us (d (T 7 i)))) = true
            · rw [if_neg (by rw [e8]; decide)]
              congr 5
              funext p
              show _ = (_ || _)
              grind
            · rw [if_pos (by simpa using e8)]
              congr 5
              funext p
              show _ = (_ || _)
              grind
        · rw [if_pos (by simpa using e3), if_pos True.intro]
          congr 5
          funext p
          show _ = (_ || _)
          grind
      · simp only [f_X4_byNaps_L46, rp_58_5 h, ln_64 h, ob]
        rw [if_pos (nI_le (Nat.le_refl 8) (by decide))]
  · rw [if_pos (by simpa using e1), if_neg e1]
