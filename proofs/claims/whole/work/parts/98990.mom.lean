/-! ===== moments: when one comes to know a thing ===== -/
theorem c_nap_m {T : Tn} {d : Nat → Nat} {u : Nat → Bool} {day k : Nat} {κ : Nat → Bool} {p : Nat} (h : κ p = true) : c_nap T d u day k κ p = true := by
  unfold c_nap
  rw [h]; rfl
theorem c_naps_m {T : Tn} {d : Nat → Nat} {u : Nat → Bool} {day : Nat} {κ : Nat → Bool} {p : Nat} (h : κ p = true) : ∀ k, c_naps T d u day κ k p = true := by
  intro k
  induction k with
  | zero => exact h
  | succ k ih => exact c_nap_m ih
theorem c_tr_m {T : Tn} {day a : Nat} {κ : Nat → Bool} {p : Nat} (h : κ p = true) : ∀ k, c_tr T day a κ k p = true := by
  intro k
  induction k with
  | zero => exact h
  | succ k ih =>
    show c_talk T day (a + k) (c_tr T day a κ k) p = true
    unfold c_talk
    rw [ih]; rfl
theorem c_day_mo {T : Tn} {d : Nat → Nat} {w u : Nat → Bool} {f day : Nat} {κ : Nat → Bool} {p : Nat} (h : κ p = true) : c_day T d w u f day κ p = true := by
  unfold c_day
  have h1 : c_own T f day κ p = true := by unfold c_own; rw [h]; rfl
  have h2 : c_np T d w u f day (c_own T f day κ) p = true := by
    unfold c_np
    split
    · exact c_naps_m h1 8
    · exact h1
  unfold c_tk
  split
  · exact c_tr_m h2 8
  · exact h2
theorem c_ngt_mo {T : Tn} {d : Nat → Nat} {w u : Nat → Bool} {f : Nat} {κ : Nat → Bool} {p : Nat} (h : κ p = true) : c_ngt T d w u f κ p = true := by
  unfold c_ngt
  split
  · unfold c_nit
    rw [h]; rfl
  · exact h
abbrev w7 : Nat → Bool := Nat.testBit 7
abbrev u0 : Nat → Bool := fun _ => false
def kmo (T : Tn) (d : Nat → Nat) (f p m : Nat) : Bool := if m % 2 = 0 then c_ahd T d w7 u0 f (m / 2) p else c_beh T d w7 u0 f (m / 2 + 1) p
theorem kmo_s {T : Tn} {d : Nat → Nat} {f p m : Nat} (h : kmo T d f p m = true) : kmo T d f p (m + 1) = true := by
  unfold kmo at h ⊢
  by_cases e : m % 2 = 0
  · rw [if_pos e] at h
    rw [if_neg (by omega), show (m + 1) / 2 = m / 2 by omega]
    exact c_ngt_mo h
  · rw [if_neg e] at h
    rw [if_pos (by omega), show (m + 1) / 2 = m / 2 + 1 by omega]
    exact c_day_mo h
theorem kmo_l {T : Tn} {d : Nat → Nat} {f p m m' : Nat} (hm : m ≤ m') (h : kmo T d f p m = true) : kmo T d f p m' = true := by
  induction m' with
  | zero => rw [show m = 0 by omega] at h; exact h
  | succ k ih =>
    by_cases e : m = k + 1
    · rw [← e]; exact h
    · exact kmo_s (ih (by omega))
theorem momp_e (T : Tn) (d : Nat → Nat) (f p : Nat) : momp T d f p = match ff (kmo T d f p) 56 with
  | some m => m
  | none => 255 := rfl
theorem momp_le {T : Tn} {d : Nat → Nat} {f p m : Nat} (hm : m < 56) : momp T d f p ≤ m ↔ kmo T d f p m = true := by
  rw [momp_e]
  cases e : ff (kmo T d f p) 56 with
  | none =>
    have := ff_none.mp e m hm
    show 255 ≤ m ↔ _
    rw [this]
    exact ⟨fun h => by omega, fun h => by cases h⟩
  | some j =>
    obtain ⟨h1, h2, h3⟩ := ff_some.mp e
    show j ≤ m ↔ _
    constructor
    · exact fun h => kmo_l h h2
    · intro h
      by_cases z : j ≤ m
      · exact z
      · have := h3 m (by omega)
        rw [h] at this; cases this
theorem momp_lt (T : Tn) (d : Nat → Nat) (f p : Nat) : momp T d f p < 56 ∨ momp T d f p = 255 := by
  rw [momp_e]
  cases e : ff (kmo T d f p) 56 with
  | none => right; rfl
  | some j => left; exact (ff_some.mp e).1
theorem momp_256 (T : Tn) (d : Nat → Nat) (f p : Nat) : momp T d f p < 256 := by have := momp_lt T d f p; omega
theorem momp_a {T : Tn} {d : Nat → Nat} {f p day : Nat} (hd : day < 28) : momp T d f p ≤ 2 * day ↔ c_ahd T d w7 u0 f day p = true := by
  rw [momp_le (by omega)]
  unfold kmo
  rw [if_pos (by omega), show 2 * day / 2 = day by omega]
theorem momp_b {T : Tn} {d : Nat → Nat} {f p day : Nat} (hd : day < 28) : momp T d f p ≤ 2 * day + 1 ↔ c_beh T d w7 u0 f (day + 1) p = true := by
  rw [momp_le (by omega)]
  unfold kmo
  rw [if_neg (by omega), show (2 * day + 1) / 2 = day by omega]
/-! eight bytes in one number -/
theorem p256 (n : Nat) : (256 : Nat) ^ n = 2 ^ (8 * n) := by rw [Nat.pow_mul]
theorem mby_lt {g : Nat → Nat} (hg : ∀ i, g i < 256) : ∀ n, mby g n < 2 ^ (8 * n) := by
  intro n
  induction n with
  | zero => exact Nat.zero_lt_one
  | succ n ih =>
    show mby g n + g n * 256 ^ n < 2 ^ (8 * (n + 1))
    have h1 := hg n
    rw [p256, show 8 * (n + 1) = 8 * n + 8 by omega, Nat.pow_add]
    have h2 : g n * 2 ^ (8 * n) ≤ 255 * 2 ^ (8 * n) := Nat.mul_le_mul_right _ (by omega)
    omega
theorem mby_t {g : Nat → Nat} (hg : ∀ i, g i < 256) : ∀ n i, (mby g n).testBit i = (decide (i < 8 * n) && (g (i / 8)).testBit (i % 8)) := by
  intro n
  induction n with
  | zero => intro i; show (0 : Nat).testBit i = _; rw [Nat.zero_testBit, decide_eq_false (by omega)]; rfl
  | succ n ih =>
    intro i
    show (mby g n + g n * 256 ^ n).testBit i = _
    rw [p256, Nat.add_comm, Nat.mul_comm, Nat.testBit_two_pow_mul_add _ (mby_lt hg n)]
    by_cases e : i < 8 * n
    · rw [if_pos e, ih i, decide_eq_true e, decide_eq_true (show i < 8 * (n + 1) by omega)]
    · rw [if_neg e]
      by_cases e2 : i < 8 * (n + 1)
      · rw [decide_eq_true e2, Bool.true_and, show i / 8 = n by omega, show i % 8 = i - 8 * n by omega]
      · rw [decide_eq_false e2, Bool.false_and]
        apply Nat.testBit_lt_two_pow
        have h1 := hg n
        have : (2 : Nat) ^ 8 ≤ 2 ^ (i - 8 * n) := Nat.pow_le_pow_right (by decide) (by omega)
        omega
theorem mby_x {g g' : Nat → Nat} {n : Nat} (h : ∀ i, i < n → g i = g' i) : mby g n = mby g' n := by
  induction n with
  | zero => rfl
  | succ n ih =>
    show mby g n + g n * 256 ^ n = mby g' n + g' n * 256 ^ n
    rw [ih (fun i hi => h i (by omega)), h n (by omega)]
theorem mby_s {g : Nat → Nat} (hg : ∀ i, g i < 256) {p v : Nat} (hp : p < 8) (hv : v < 256) : (mby g 8 &&& ((255 * 2 ^ (8 * p)) ^^^ (2 ^ 64 - 1))) ||| (v * 2 ^ (8 * p)) = mby (u1 g p v) 8 := by
  have hg' : ∀ i, u1 g p v i < 256 := fun i => by
    by_cases z : i = p
    · rw [z, u1_s]; exact hv
    · rw [u1_n _ _ z]; exact hg i
  apply Nat.eq_of_testBit_eq
  intro i
  rw [Nat.testBit_or, Nat.testBit_and, Nat.testBit_xor, mby_t hg, mby_t hg', Nat.testBit_mul_two_pow, Nat.testBit_mul_two_pow, Nat.testBit_two_pow_sub_one]
  have e255 : ∀ k, (255 : Nat).testBit k = decide (k < 8) := fun k => by
    rw [show (255 : Nat) = 2 ^ 8 - 1 from rfl, Nat.testBit_two_pow_sub_one]
  rw [e255]
  by_cases e64 : i < 64
  · rw [decide_eq_true (show i < 8 * 8 by omega), Bool.true_and, Bool.true_and]
    by_cases z : i / 8 = p
    · rw [z, u1_s, decide_eq_true (show 8 * p ≤ i by omega), decide_eq_true (show i - 8 * p < 8 by omega), show i % 8 = i - 8 * p by omega]
      simp
    · rw [u1_n _ _ z]
      by_cases z2 : 8 * p ≤ i
      · rw [decide_eq_true z2, decide_eq_false (show ¬ i - 8 * p < 8 by omega)]
        have : v.testBit (i - 8 * p) = false := by
          apply Nat.testBit_lt_two_pow
          have : (2 : Nat) ^ 8 ≤ 2 ^ (i - 8 * p) := Nat.pow_le_pow_right (by decide) (by omega)
          omega
        rw [this]
        simp
      · rw [decide_eq_false z2]
        simp
  · rw [decide_eq_false (show ¬ i < 8 * 8 by omega)]
    have : v.testBit (i - 8 * p) = false := by
      apply Nat.testBit_lt_two_pow
      have : (2 : Nat) ^ 8 ≤ 2 ^ (i - 8 * p) := Nat.pow_le_pow_right (by decide) (by omega)
      omega
    rw [this]
    simp
theorem mby_g {g : Nat → Nat} (hg : ∀ i, g i < 256) {p : Nat} (hp : p < 8) : mby g 8 / 2 ^ (8 * p) % 256 = g p := by
  apply Nat.eq_of_testBit_eq
  intro i
  rw [show (256 : Nat) = 2 ^ 8 from rfl, Nat.testBit_mod_two_pow, Nat.testBit_div_two_pow, mby_t hg]
  by_cases e : i < 8
  · rw [decide_eq_true e, decide_eq_true (show i + 8 * p < 8 * 8 by omega), show (i + 8 * p) / 8 = p by omega, show (i + 8 * p) % 8 = i by omega]
    rfl
  · rw [decide_eq_false e, Bool.false_and]
    symm
    apply Nat.testBit_lt_two_pow
    have h1 := hg p
    have : (2 : Nat) ^ 8 ≤ 2 ^ i := Nat.pow_le_pow_right (by decide) (by omega)
    omega
/-! nothing more comes of it -/
def stl (T : Tn) (d : Nat → Nat) (w : Nat → Bool) (f : Nat) (κ : Nat → Bool) : Prop := ((w 0 = true ∨ w 2 = true) → (T 0 8).testBit f = false → ∀ p, p < 8 → d p ≠ 15 → κ (d p) = true → κ p = true) ∧ (w 1 = true → (T 0 4).testBit f = false → ∀ k, k < T 0 2 → κ (T 4 k) = κ (T 5 k))
theorem stl_day {T : Tn} {d : Nat → Nat} {w u : Nat → Bool} {f day : Nat} {κ : Nat → Bool} (ok : OkT T) (od : OkD (T 0 0) d) (h : stl T d w f κ) (hd : T 3 f ≠ day) : c_day T d w u f day κ = κ := by
  have n8 := ok.1.1
  have e1 : c_own T f day κ = κ := by
    funext p
    unfold c_own
    have : (T 3 f == day) = false := by simpa using hd
    rw [this]; simp
  unfold c_day
  rw [e1]
  have e2 : c_np T d w u f day κ = κ := by
    unfold c_np
    by_cases z : (w 2 && !(T 0 8).testBit f) = true
    · rw [if_pos z]
      simp at z
      have key : ∀ k, c_naps T d u day κ k = κ := by
        intro k
        induction k with
        | zero => rfl
        | succ k ih =>
          show c_nap T d u day k (c_naps T d u day κ k) = κ
          rw [ih]
          funext p
          unfold c_nap
          cases ek : κ p with
          | true => rfl
          | false =>
            rw [Bool.false_or]
            by_cases z15 : d p = 15
            · have : (d p == 15) = true := by simpa using z15
              rw [this]; simp
            · have hp : p < 8 := by
                by_cases w' : T 0 0 ≤ p
                · exact absurd (od.2.1 p w') z15
                · omega
              cases ed : κ (d p) with
              | false => simp
              | true =>
                have := h.1 (Or.inr z.1) z.2 p hp z15 ed
                rw [ek] at this; cases this
      exact key 8
    · rw [if_neg z]
  rw [e2]
  unfold c_tk
  by_cases z : (w 1 && !(T 0 4).testBit f) = true
  · rw [if_pos z]
    simp at z
    have key : ∀ k, c_tr T day 0 κ k = κ := by
      intro k
      induction k with
      | zero => rfl
      | succ k ih =>
        show c_talk T day (0 + k) (c_tr T day 0 κ k) = κ
        rw [ih, Nat.zero_add]
        funext p
        unfold c_talk
        by_cases hk : k < T 0 2
        · have e := h.2 z.1 z.2 k hk
          cases ek : κ p with
          | true => rfl
          | false =>
            rw [Bool.false_or, ← e, Bool.or_self]
            by_cases z4 : p = T 4 k
            · rw [← z4, ek]; simp
            · by_cases z5 : p = T 5 k
              · rw [e, ← z5, ek]; simp
              · have h4 : (p == T 4 k) = false := by simpa using z4
                have h5 : (p == T 5 k) = false := by simpa using z5
                rw [h4, h5]; simp
        · rw [decide_eq_false hk]; simp
    exact key 8
  · rw [if_neg z]
theorem stl_ngt {T : Tn} {d : Nat → Nat} {w u : Nat → Bool} {f : Nat} {κ : Nat → Bool} (ok : OkT T) (od : OkD (T 0 0) d) (h : stl T d w f κ) : c_ngt T d w u f κ = κ := by
  have n8 := ok.1.1
  unfold c_ngt
  by_cases z : (w 0 && !(T 0 8).testBit f) = true
  · rw [if_pos z]
    simp at z
    funext p
    unfold c_nit
    cases ek : κ p with
    | true => rfl
    | false =>
      rw [Bool.false_or]
      by_cases z15 : d p = 15
      · have : (d p == 15) = true := by simpa using z15
        rw [this]; simp
      · have hp : p < 8 := by
          by_cases w' : T 0 0 ≤ p
          · exact absurd (od.2.1 p w') z15
          · omega
        cases ed : κ (d p) with
        | false => simp
        | true =>
          have := h.1 (Or.inl z.1) z.2 p hp z15 ed
          rw [ek] at this; cases this
  · rw [if_neg z]
theorem stl_beh {T : Tn} {d : Nat → Nat} {w us : Nat → Bool} {f day : Nat} (ok : OkT T) (od : OkD (T 0 0) d) (hd : T 3 f < day) (h : stl T d w f (c_beh T d w us f day)) : ∀ k, c_beh T d w us f (day + k) = c_beh T d w us f day := by
  intro k
  induction k with
  | zero => rfl
  | succ k ih =>
    show c_ngt T d w _ f (c_day T d w _ f (day + k) (c_beh T d w us f (day + k))) = _
    rw [ih, stl_day ok od h (by omega), stl_ngt ok od h]
