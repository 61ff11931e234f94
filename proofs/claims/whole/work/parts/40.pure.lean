/-! ===== pure: how the models are reckoned with ===== -/
theorem iI (μ : Mm) (a k : Nat) (v : Int32) (b : Nat) : mm_I (ms_I μ a k v) b = if b = a then u1 (mm_I μ a) k v else mm_I μ b := rfl
theorem iA (μ : Mm) (a : Nat) (f : Nat → Int32) (b : Nat) : mm_I (ms_A μ a f) b = if b = a then f else mm_I μ b := rfl
theorem iL (μ : Mm) (a k : Nat) (v : Int64) : mm_I (ms_L μ a k v) = mm_I μ := rfl
theorem iP (μ : Mm) (a k : Nat) (v : Option Nat) : mm_I (ms_P μ a k v) = mm_I μ := rfl
theorem lI (μ : Mm) (a k : Nat) (v : Int32) : mm_L (ms_I μ a k v) = mm_L μ := rfl
theorem lA (μ : Mm) (a : Nat) (f : Nat → Int32) : mm_L (ms_A μ a f) = mm_L μ := rfl
theorem lL (μ : Mm) (a k : Nat) (v : Int64) (b : Nat) : mm_L (ms_L μ a k v) b = if b = a then u1 (mm_L μ a) k v else mm_L μ b := rfl
theorem lP (μ : Mm) (a k : Nat) (v : Option Nat) : mm_L (ms_P μ a k v) = mm_L μ := rfl
theorem pI (μ : Mm) (a k : Nat) (v : Int32) : mm_P (ms_I μ a k v) = mm_P μ := rfl
theorem pA (μ : Mm) (a : Nat) (f : Nat → Int32) : mm_P (ms_A μ a f) = mm_P μ := rfl
theorem pL (μ : Mm) (a k : Nat) (v : Int64) : mm_P (ms_L μ a k v) = mm_P μ := rfl
theorem pP (μ : Mm) (a k : Nat) (v : Option Nat) (b : Nat) : mm_P (ms_P μ a k v) b = if b = a then u1 (mm_P μ a) k v else mm_P μ b := rfl
theorem kI (μ : Mm) (a k : Nat) (v : Int32) : mm_K (ms_I μ a k v) = mm_K μ := rfl
theorem kA (μ : Mm) (a : Nat) (f : Nat → Int32) : mm_K (ms_A μ a f) = mm_K μ := rfl
theorem kL (μ : Mm) (a k : Nat) (v : Int64) : mm_K (ms_L μ a k v) = mm_K μ := rfl
theorem kP (μ : Mm) (a k : Nat) (v : Option Nat) : mm_K (ms_P μ a k v) = mm_K μ := rfl
theorem sA_I (μ : Mm) (a k : Nat) (f : Nat → Int32) (v : Int32) : ms_I (ms_A μ a f) a k v = ms_A μ a (u1 f k v) := by
  show (u1 (u1 μ.1 a f) a (u1 (u1 μ.1 a f a) k v), μ.2) = (u1 μ.1 a (u1 f k v), μ.2)
  rw [u1_s]
  congr 1
  funext b
  by_cases hb : b = a
  · rw [hb, u1_s, u1_s]
  · rw [u1_n _ _ hb, u1_n _ _ hb, u1_n _ _ hb]
theorem sI_A (μ : Mm) (a k : Nat) (v : Int32) : ms_I μ a k v = ms_A μ a (u1 (mm_I μ a) k v) := rfl
theorem sA_A (μ : Mm) (a : Nat) (f g : Nat → Int32) : ms_A (ms_A μ a f) a g = ms_A μ a g := by
  show (u1 (u1 μ.1 a f) a g, μ.2) = (u1 μ.1 a g, μ.2)
  congr 1
  funext b
  by_cases hb : b = a
  · rw [hb, u1_s, u1_s]
  · rw [u1_n _ _ hb, u1_n _ _ hb, u1_n _ _ hb]
theorem sA_c (μ : Mm) {a b : Nat} (h : a ≠ b) (f g : Nat → Int32) : ms_A (ms_A μ a f) b g = ms_A (ms_A μ b g) a f := by
  show (u1 (u1 μ.1 a f) b g, μ.2) = (u1 (u1 μ.1 b g) a f, μ.2)
  congr 1
  funext c
  by_cases h1 : c = a
  · rw [h1, u1_n _ _ h, u1_s, u1_s]
  · by_cases h2 : c = b
    · rw [h2, u1_s, u1_n _ _ (Ne.symm h), u1_s]
    · rw [u1_n _ _ h2, u1_n _ _ h1, u1_n _ _ h1, u1_n _ _ h2]
theorem sA_id (μ : Mm) (a : Nat) : ms_A μ a (mm_I μ a) = μ := by
  show (u1 μ.1 a (μ.1 a), μ.2) = μ
  have h : u1 μ.1 a (μ.1 a) = μ.1 := by
    funext b
    by_cases hb : b = a
    · rw [hb, u1_s]
    · rw [u1_n _ _ hb]
  rw [h]
theorem u1_u1 {α : Type} (f : Nat → α) (k : Nat) (v w : α) : u1 (u1 f k v) k w = u1 f k w := by
  funext j
  by_cases h : j = k
  · rw [h, u1_s, u1_s]
  · rw [u1_n _ _ h, u1_n _ _ h, u1_n _ _ h]
/-! single operations -/
theorem e_gfI {t k a : Nat} {μ : Mm} (h : (mm_K μ a).1 = t) : gf_I t k a μ = some (mm_I μ a k) := if_pos h
theorem e_gfL {t k a : Nat} {μ : Mm} (h : (mm_K μ a).1 = t) : gf_L t k a μ = some (mm_L μ a k) := if_pos h
theorem e_gfP {t k a p : Nat} {μ : Mm} (h : (mm_K μ a).1 = t) (hp : mm_P μ a k = some p) : gf_P t k a μ = some p := (if_pos h).trans hp
theorem e_pfI {t k a : Nat} {v : Int32} {μ : Mm} (h : (mm_K μ a).1 = t) : pf_I t k a v μ = some (ms_I μ a k v) := if_pos h
theorem e_pfZ {t k a : Nat} {v : Int32} {μ : Mm} (h : (mm_K μ a).1 = t) (hv : v = 0 ∨ v = 1) : pf_Z t k a v μ = some (ms_I μ a k v) := if_pos ⟨h, hv⟩
theorem e_pfL {t k a : Nat} {v : Int64} {μ : Mm} (h : (mm_K μ a).1 = t) : pf_L t k a v μ = some (ms_L μ a k v) := if_pos h
theorem e_pfP {t k a v : Nat} {μ : Mm} (h : (mm_K μ a).1 = t) : pf_P t k a v μ = some (ms_P μ a k (some v)) := if_pos h
theorem nI_ix {i n : Nat} (h : i < n) (hn : n < 2 ^ 31) : 0 ≤ (nI i).toInt ∧ (nI i).toInt < n := by rw [nI_toInt (by omega)]; omega
theorem e_gaI {a i n : Nat} {μ : Mm} (h : mm_K μ a = (20, n)) (hi : i < n) (hn : n < 2 ^ 31) : ga_I a (nI i) μ = some (mm_I μ a i) := by
  have h1 := nI_ix hi hn
  unfold ga_I
  rw [h, if_pos ⟨rfl, h1⟩, nI_clamp (by omega)]
theorem e_gaL {a i n : Nat} {μ : Mm} (h : mm_K μ a = (21, n)) (hi : i < n) (hn : n < 2 ^ 31) : ga_L a (nI i) μ = some (mm_L μ a i) := by
  have h1 := nI_ix hi hn
  unfold ga_L
  rw [h, if_pos ⟨rfl, h1⟩, nI_clamp (by omega)]
theorem e_gaB {a i n : Nat} {μ : Mm} (h : mm_K μ a = (22, n)) (hi : i < n) (hn : n < 2 ^ 31) : ga_B a (nI i) μ = some (mm_I μ a i) := by
  have h1 := nI_ix hi hn
  unfold ga_B
  rw [h, if_pos ⟨rfl, h1⟩, nI_clamp (by omega)]
theorem e_gaZ {a i n : Nat} {μ : Mm} (h : mm_K μ a = (23, n)) (hi : i < n) (hn : n < 2 ^ 31) : ga_Z a (nI i) μ = some (mm_I μ a i) := by
  have h1 := nI_ix hi hn
  unfold ga_Z
  rw [h, if_pos ⟨rfl, h1⟩, nI_clamp (by omega)]
theorem e_gaP {t a i n p : Nat} {μ : Mm} (h : mm_K μ a = (t, n)) (hi : i < n) (hn : n < 2 ^ 31) (hp : mm_P μ a i = some p) : ga_P t a (nI i) μ = some p := by
  have h1 := nI_ix hi hn
  unfold ga_P
  rw [h, if_pos ⟨rfl, h1⟩, nI_clamp (by omega)]
  exact hp
theorem e_paI {a i n : Nat} {v : Int32} {μ : Mm} (h : mm_K μ a = (20, n)) (hi : i < n) (hn : n < 2 ^ 31) : pa_I a (nI i) v μ = some (ms_I μ a i v) := by
  have h1 := nI_ix hi hn
  unfold pa_I
  rw [h, if_pos ⟨rfl, h1⟩, nI_clamp (by omega)]
theorem e_paL {a i n : Nat} {v : Int64} {μ : Mm} (h : mm_K μ a = (21, n)) (hi : i < n) (hn : n < 2 ^ 31) : pa_L a (nI i) v μ = some (ms_L μ a i v) := by
  have h1 := nI_ix hi hn
  unfold pa_L
  rw [h, if_pos ⟨rfl, h1⟩, nI_clamp (by omega)]
theorem e_paB {a i n : Nat} {v : Int32} {μ : Mm} (h : mm_K μ a = (22, n)) (hi : i < n) (hn : n < 2 ^ 31) : pa_B a (nI i) v μ = some (ms_I μ a i v.toInt8.toInt32) := by
  have h1 := nI_ix hi hn
  unfold pa_B
  rw [h, if_pos ⟨rfl, h1⟩, nI_clamp (by omega)]
theorem e_paZ {a i n : Nat} {v : Int32} {μ : Mm} (h : mm_K μ a = (23, n)) (hi : i < n) (hn : n < 2 ^ 31) (hv : v = 0 ∨ v = 1) : pa_Z a (nI i) v μ = some (ms_I μ a i v) := by
  have h1 := nI_ix hi hn
  unfold pa_Z
  rw [h, if_pos ⟨rfl, h1.1, h1.2, hv⟩, nI_clamp (by omega)]
theorem e_len {a t n : Nat} {μ : Mm} (h : mm_K μ a = (t, n)) (ht : 20 ≤ t ∧ t ≤ 25) : ga_len a μ = some (nI n) := by
  unfold ga_len
  rw [h, if_pos ht]
theorem ob {α β : Type} (a : α) (f : α → Option β) : (some a).bind f = f a := rfl
/-! loops -/
theorem whl_l {σ β : Type} {body : σ → Option (σ ⊕ β)} {s s' : σ} (h : body s = some (.inl s')) : whl body s = whl body s' := by rw [whl_step, h]; rfl
theorem whl_r {σ β : Type} {body : σ → Option (σ ⊕ β)} {s : σ} {b : β} (h : body s = some (.inr b)) : whl body s = some b := by rw [whl_step, h]; rfl
/-- a loop that counts: its state after i turns is st i, it ends behind n turns -/
theorem whl_n {σ β : Type} {body : σ → Option (σ ⊕ β)} (n : Nat) (st : Nat → σ) {b : β} (hs : ∀ i, i < n → body (st i) = some (.inl (st (i + 1)))) (he : body (st n) = some (.inr b)) : whl body (st 0) = some b := by
  have key : ∀ k, k ≤ n → whl body (st (n - k)) = some b := by
    intro k
    induction k with
    | zero => intro _; exact whl_r he
    | succ k ih =>
      intro hk
      rw [whl_l (hs (n - (k + 1)) (by omega)), show n - (k + 1) + 1 = n - k by omega]
      exact ih (by omega)
  have h := key n (Nat.le_refl n)
  rw [Nat.sub_self] at h
  exact h
/-- a loop with an invariant and a measure -/
theorem whl_m {σ β : Type} {body : σ → Option (σ ⊕ β)} (I : σ → Prop) (m : σ → Nat) {Q : β → Prop} (hs : ∀ s, I s → (∃ s', body s = some (.inl s') ∧ I s' ∧ m s' < m s) ∨ (∃ b, body s = some (.inr b) ∧ Q b)) : ∀ s, I s → ∃ b, whl body s = some b ∧ Q b := by
  intro s
  generalize hn : m s = n
  induction n using Nat.strongRecOn generalizing s with
  | _ n ih =>
    intro hI
    rcases hs s hI with ⟨s', h1, h2, h3⟩ | ⟨b, h1, h2⟩
    · obtain ⟨b, h4, h5⟩ := ih (m s') (by omega) s' rfl h2
      exact ⟨b, by rw [whl_l h1]; exact h4, h5⟩
    · exact ⟨b, whl_r h1, h2⟩
/-! small ints -/
theorem nI_lt_i {a b : Nat} (ha : a < 2 ^ 31) (hb : b < 2 ^ 31) : (nI a < nI b) = (a < b) := propext (nI_ltI ha hb)
theorem nI_le_i {a b : Nat} (ha : a < 2 ^ 31) (hb : b < 2 ^ 31) : (nI a ≤ nI b) = (a ≤ b) := propext (nI_leI ha hb)
theorem nI_eq_i {a b : Nat} (ha : a < 2 ^ 31) (hb : b < 2 ^ 31) : (nI a = nI b) = (a = b) := propext (nI_eq ha hb)
/-- Arrays.fill -/
theorem e_fillI {p n : Nat} {v : Int32} {μ : Mm} (h : mm_K μ p = (20, n)) (hn : n < 2 ^ 31) : f_J7_fill_53178 p v μ = some (ms_A μ p (fun j => if j < n then v else mm_I μ p j)) := by
  unfold f_J7_fill_53178
  rw [e_len h ⟨by decide, by decide⟩, ob]
  have hst : ∀ i, i ≤ n → mm_K (ms_A μ p (fun j => if j < i then v else mm_I μ p j)) p = (20, n) := fun i _ => h
  have := whl_n (body := f_J7_fill_53178_L5 p v (nI n)) n (fun i => (nI i, ms_A μ p (fun j => if j < i then v else mm_I μ p j))) (b := ms_A μ p (fun j => if j < n then v else mm_I μ p j)) (fun i hi => ?_) ?_
  · have e0 : ms_A μ p (fun j => if j < 0 then v else mm_I μ p j) = μ := by
      have : (fun j => if j < 0 then v else mm_I μ p j) = mm_I μ p := by funext j; rw [if_neg (by omega)]
      rw [this, sA_id]
    have h2 : whl (f_J7_fill_53178_L5 p v (nI n)) ((0 : Int32), μ) = some (ms_A μ p (fun j => if j < n then v else mm_I μ p j)) := by
      have h3 := this
      simp only [e0] at h3
      exact h3
    rw [h2, ob]
  · unfold f_J7_fill_53178_L5
    rw [if_neg (by rw [nI_le_i (by omega) (by omega)]; omega), e_paI (hst i (by omega)) hi hn, ob, ob, sA_I, nI_1]
    congr 4
    funext j
    by_cases hj : j = i
    · rw [hj, u1_s, if_pos (by omega)]
    · rw [u1_n _ _ hj]
      by_cases h2 : j < i
      · rw [if_pos h2, if_pos (by omega)]
      · rw [if_neg h2, if_neg (by omega)]
  · unfold f_J7_fill_53178_L5
    rw [if_pos (nI_le (Nat.le_refl n) hn)]
