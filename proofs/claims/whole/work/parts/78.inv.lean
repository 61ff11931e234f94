/-! ===== loops with what is known ===== -/
theorem whl_i {σ β : Type} {body : σ → Option (σ ⊕ β)} (n : Nat) (I : Nat → σ → Prop) {Q : β → Prop} {s0 : σ} (h0 : I 0 s0) (hs : ∀ i s, i < n → I i s → ∃ s', body s = some (.inl s') ∧ I (i + 1) s') (he : ∀ s, I n s → ∃ b, body s = some (.inr b) ∧ Q b) : ∃ b, whl body s0 = some b ∧ Q b := by
  have key : ∀ k i s, i + k = n → I i s → ∃ b, whl body s = some b ∧ Q b := by
    intro k
    induction k with
    | zero =>
      intro i s hi hI
      obtain ⟨b, h1, h2⟩ := he s (by rw [show n = i by omega]; exact hI)
      exact ⟨b, whl_r h1, h2⟩
    | succ k ih =>
      intro i s hi hI
      obtain ⟨s', h1, h2⟩ := hs i s (by omega) hI
      obtain ⟨b, h3, h4⟩ := ih (i + 1) s' (by omega) h2
      exact ⟨b, by rw [whl_l h1]; exact h3, h4⟩
  exact key n 0 s0 (by omega) h0
theorem whl_e {σ β : Type} {body : σ → Option (σ ⊕ β)} (n : Nat) (I : Nat → σ → Prop) {Q : β → Prop} {s0 : σ} (h0 : I 0 s0) (hs : ∀ i s, i < n → I i s → (∃ s', body s = some (.inl s') ∧ I (i + 1) s') ∨ (∃ b, body s = some (.inr b) ∧ Q b)) (he : ∀ s, I n s → ∃ b, body s = some (.inr b) ∧ Q b) : ∃ b, whl body s0 = some b ∧ Q b := by
  have key : ∀ k i s, i + k = n → I i s → ∃ b, whl body s = some b ∧ Q b := by
    intro k
    induction k with
    | zero =>
      intro i s hi hI
      obtain ⟨b, h1, h2⟩ := he s (by rw [show n = i by omega]; exact hI)
      exact ⟨b, whl_r h1, h2⟩
    | succ k ih =>
      intro i s hi hI
      rcases hs i s (by omega) hI with ⟨s', h1, h2⟩ | ⟨b, h1, h2⟩
      · obtain ⟨b, h3, h4⟩ := ih (i + 1) s' (by omega) h2
        exact ⟨b, by rw [whl_l h1]; exact h3, h4⟩
      · exact ⟨b, whl_r h1, h2⟩
  exact key n 0 s0 (by omega) h0
/-! ===== turnings by number ===== -/
def rwT (T : Tn) (t : Nat) : Nat := (EN T).getD t 0
/-- whom each dreams by the t-th turning -/
def dr (T : Tn) (t : Nat) : Nat → Nat := dT T (rwT T t)
theorem rwT_e {T : Tn} {t : Nat} (h : t < (EN T).length) : rwT T t = (EN T)[t] := by
  unfold rwT
  rw [List.getD_eq_getElem?_getD, List.getElem?_eq_getElem h]
  rfl
theorem rwT_mem {T : Tn} {t : Nat} (h : t < (EN T).length) : rwT T t ∈ EN T := by rw [rwT_e h]; exact List.getElem_mem h
theorem dr_ok {T : Tn} (ok : OkT T) {t : Nat} (h : t < (EN T).length) : OkD (T 0 0) (dr T t) := okd_EN ok (rwT_mem h)
theorem EN_lt {T : Tn} (ok : OkT T) {r : Nat} (h : r ∈ EN T) : r < 2 ^ 32 := by
  have h2 := (EN_dig ok h).2.1
  have hn := ok.1.1
  have e : r = dg (nb r) 8 := nb_ext (fun p => by
    rw [nb_dg (nb_lt r)]
    by_cases hp : p < 8
    · rw [if_pos hp]
    · rw [if_neg hp, h2 p (by omega)])
  rw [e, ← m16_8]
  exact dg_lt (nb_lt r) 8
theorem dr_R {T : Tn} (ok : OkT T) {t : Nat} (h : t < (EN T).length) : RowR (lN (rwT T t)) (T 0 0) (dr T t) := rowR_T ok (by have := EN_lt ok (rwT_mem h); omega)
theorem dr_nb {T : Tn} {t p : Nat} (hp : p < 8) : nb (cr T (rwT T t)) p = dr T t p := cr_nb hp
theorem cr_lt (T : Tn) (r : Nat) : cr T r < 2 ^ 32 := cw_lt _ _ _
/-! ===== what holds between two calls ===== -/
/-- a run: whether it is on; turning, seed, days; who knows what -/
abbrev Rs : Type := Bool × Nat × Nat × Nat × (Nat → Nat → Bool)
def OkRs (T : Tn) (i : Nat) (r : Rs) : Prop := r.1 = true → r.2.1 < (EN T).length ∧ r.2.2.1 < 2 ^ 31 ∧ r.2.2.2.1 ≤ 200 * i ∧ ∀ p f, T 0 0 ≤ p ∨ T 0 1 ≤ f → r.2.2.2.2 p f = false
/-- acts: rows 0 to 4 step, day, person, fact, knew; 5 to 7 of rights: step, act, knew; row 8: how many acts, rights, the latest step -/
def OkA (T : Tn) (A : Nat → Nat → Nat) : Prop := (A 8 0 ≤ 16 ∧ A 8 1 ≤ 20 ∧ A 8 2 ≤ 999) ∧ (∀ i, i < A 8 0 → A 0 i ≤ A 8 2 ∧ A 1 i < 28 ∧ A 2 i < T 0 0 ∧ A 3 i < T 0 1 ∧ A 4 i ≤ 1) ∧ (∀ i j, i ≤ j → j < A 8 0 → A 0 i ≤ A 0 j) ∧ (∀ i, i < A 8 1 → A 5 i ≤ A 8 2 ∧ A 6 i < A 8 0 ∧ A 7 i ≤ 1) ∧ (∀ i j, i ≤ j → j < A 8 1 → A 5 i ≤ A 5 j)
def Cb (X c : Nat) (μ : Mm) : Prop := Sh X μ ∧ (c = X + 21 ∧ mm_P μ X 14 = some (X + 39) ∨ c = X + 39 ∧ mm_P μ X 14 = some (X + 21)) ∧ mm_P μ X 13 = some c ∧ mm_P μ (X + 66) 5 = some c
def Ct (X c : Nat) (T : Tn) (t : Nat) (μ : Mm) : Prop := OkT T ∧ t < (EN T).length ∧ CTn c T μ ∧ TuP c T μ ∧ SpT X c T μ ∧ mm_I μ X 15 = nI (cr T (rwT T t))
def Cp (X n : Nat) (B : Nat → Nat) (μ : Mm) : Prop := n ≤ 900 ∧ (∀ i, B i < 256) ∧ mm_I μ (X + 1) 1 = nI n ∧ ∀ i, i < n → mm_I μ (X + 2) i = nI (B i)
def Cf (X : Nat) (F : Int32 × Int32) (μ : Mm) : Prop := mm_I μ (X + 57) 3 = F.1 ∧ mm_I μ (X + 57) 4 = F.2
def Ca (X : Nat) (A : Nat → Nat → Nat) (μ : Mm) : Prop := (mm_I μ (X + 4) 8 = nI (A 8 0) ∧ mm_I μ (X + 4) 9 = nI (A 8 1) ∧ mm_I μ (X + 4) 10 = nI (A 8 2)) ∧
  (∀ i, i < A 8 0 → mm_I μ (X + 5) i = nI (A 0 i) ∧ mm_I μ (X + 6) i = nI (A 1 i) ∧ mm_I μ (X + 7) i = nI (A 2 i) ∧ mm_I μ (X + 8) i = nI (A 3 i) ∧ mm_I μ (X + 9) i = nI (A 4 i)) ∧
  (∀ i, i < A 8 1 → mm_I μ (X + 10) i = nI (A 5 i) ∧ mm_I μ (X + 11) i = nI (A 6 i) ∧ mm_I μ (X + 12) i = nI (A 7 i))
def Cr1 (a : Nat) (T : Tn) (r : Rs) (μ : Mm) : Prop := mm_I μ a 1 = nI r.1.toNat ∧ (r.1 = true → mm_I μ a 2 = nI r.2.2.1 ∧ mm_I μ a 3 = nI (cr T (rwT T r.2.1)) ∧ mm_I μ a 4 = nI r.2.2.2.1 ∧ ∀ f, f < 12 → mm_I μ (a + 1) f = nI (bm (fun p => r.2.2.2.2 p f) 8))
def Cr (X : Nat) (T : Tn) (R : Nat → Rs) (μ : Mm) : Prop := Cr1 (X + 13) T (R 0) μ ∧ Cr1 (X + 84) T (R 1) μ ∧ Cr1 (X + 86) T (R 2) μ ∧ Cr1 (X + 88) T (R 3) μ
/-! how the class's census is kept -/
/-- when p comes to know f: twice the day, one more in its night; 255 never -/
def momp (T : Tn) (d : Nat → Nat) (f p : Nat) : Nat := match ff (fun m => if m % 2 = 0 then c_ahd T d (Nat.testBit 7) (fun _ => false) f (m / 2) p else c_beh T d (Nat.testBit 7) (fun _ => false) f (m / 2 + 1) p) 56 with
  | some m => m
  | none => 255
/-- eight bytes -/
def mby (g : Nat → Nat) : Nat → Nat
  | 0 => 0
  | n + 1 => mby g n + g n * 256 ^ n
def mom (T : Tn) (d : Nat → Nat) (f : Nat) : Int64 := lN (mby (momp T d f) 8)
/-- what the answers to ask are, in three parts -/
def phi (L : Nat) : Nat := if L < 14833 then 2 * L else 3 * 14833
def sgl (g : Nat → Nat) : Nat := sg g 12
def knewA (A : Nat → Nat → Nat) (k s : Nat) : Nat → Nat
  | 0 => A 4 k
  | i + 1 => if A 6 i = k ∧ A 5 i ≤ s then A 7 i else knewA A k s i
/-- whether a turning fits what is known at a step -/
def fitA (T : Tn) (A : Nat → Nat → Nat) (s : Nat) (d : Nat → Nat) : Bool := !anyb (fun k => decide (A 0 k ≤ s) && !((c_ahd T d (Nat.testBit 7) (fun _ => false) (A 3 k) (A 1 k) (A 2 k)).toNat == knewA A k s (A 8 1))) (A 8 0)
def fits (T : Tn) (A : Nat → Nat → Nat) (s k : Nat) : Bool := fitA T A s (dr T k)
def cntb (b : Nat → Bool) : Nat → Nat
  | 0 => 0
  | n + 1 => cntb b n + (b n).toNat
/-- the best question, by place (12 p + f) 28 + day; the least and where so far -/
def askN (T : Tn) (A : Nat → Nat → Nat) (j : Nat) : Nat := cntb (fun k => fits T A 999 k && c_ahd T (dr T k) (Nat.testBit 7) (fun _ => false) (j / 28 % 12) (j % 28) (j / 28 / 12)) (EN T).length
def askS (T : Tn) (A : Nat → Nat → Nat) : Nat → Nat × Option Nat
  | 0 => (cntb (fits T A 999) (EN T).length, none)
  | j + 1 =>
    let z := askS T A j
    let g := max (askN T A j) (cntb (fits T A 999) (EN T).length - askN T A j)
    if j / 28 / 12 < T 0 0 ∧ j / 28 % 12 < T 0 1 ∧ g < z.1 then (g, some j) else z
def askB (T : Tn) (A : Nat → Nat → Nat) : Option Nat := (askS T A 2688).2
def askI (T : Tn) (A : Nat → Nat → Nat) (w : Nat) : Int32 := match askB T A with
  | none => -1
  | some j => nI (if w = 0 then j / 28 / 12 else if w = 1 then j / 28 % 12 else j % 28)
def Cc (X : Nat) (T : Tn) (A : Nat → Nat → Nat) (μ : Mm) : Prop := ∃ (Rw Ft nr sz fo : Nat) (Ml Ln : Nat → Nat) (as : Bool),
  (mm_P μ (X + 66) 6 = some Rw ∧ mm_P μ (X + 66) 7 = some Ft ∧ mm_K μ Rw = (20, nr) ∧ mm_K μ Ft = (20, nr) ∧ nr ≤ 14833 ∧ Rw ≠ Ft ∧ (Rw = X + 82 ∨ X + 135 ≤ Rw) ∧ (Ft = X + 83 ∨ X + 135 ≤ Ft) ∧ Rw < mm_N μ ∧ Ft < mm_N μ) ∧
  (∀ f, f < 12 → mm_P μ (X + 67) f = some (Ml f) ∧ mm_K μ (Ml f) = (21, Ln f) ∧ Ln f ≤ 14833 ∧ (Ml f = X + 68 + f ∨ X + 135 ≤ Ml f) ∧ Ml f < mm_N μ) ∧ (∀ f g, f < 12 → g < 12 → Ml f = Ml g → f = g) ∧
  (mm_I μ (X + 66) 9 = nI sz ∧ mm_I μ (X + 66) 10 = nI fo ∧ mm_I μ (X + 66) 11 = nI as.toNat ∧ (sz = 0 ∨ sz = (EN T).length) ∧ fo < 2 ^ 12) ∧
  (sz ≠ 0 → (EN T).length ≤ nr ∧ ∀ k, k < (EN T).length → mm_I μ Rw k = nI (cr T (rwT T k))) ∧
  (∀ f, fo.testBit f = true → (sz ≠ 0 ∧ f < T 0 1) ∧ (EN T).length ≤ Ln f ∧ ∀ k, k < (EN T).length → mm_L μ (Ml f) k = mom T (dr T k) f) ∧
  (as = true → mm_I μ (X + 66) 12 = askI T A 0 ∧ mm_I μ (X + 66) 13 = askI T A 1 ∧ mm_I μ (X + 66) 14 = askI T A 2) ∧
  (X + 135 ≤ mm_N μ ∧ mm_N μ ≤ X + 135 + 2 * nr + sgl Ln ∧ mm_Z μ ≤ 30000 + 2 * phi nr + sgl (fun f => phi (Ln f)))
/-- the reference -/
def Rt (X : Nat) (T : Tn) (t : Nat) (μ : Mm) : Prop := MTn (X + 90) 0 T μ ∧ mm_I μ (X + 90) 30 = nI (T 0 12) ∧ mm_I μ (X + 90) 32 = nI (EN T).length ∧ mm_I μ (X + 90) 33 = nI t ∧ mm_I μ (X + 90) 37 = 0 ∧ ∀ k, k < (EN T).length → mm_L μ (X + 110) k = lN (rwT T k)
def Rp (X n : Nat) (B : Nat → Nat) (μ : Mm) : Prop := mm_I μ (X + 90) 1 = nI n ∧ ∀ i, i < n → mm_I μ (X + 91) i = (nI (B i)).toInt8.toInt32
def Rf (X : Nat) (F : Int32 × Int32) (μ : Mm) : Prop := mm_I μ (X + 90) 8 = F.1 ∧ mm_I μ (X + 90) 9 = F.2
def Ra (X : Nat) (A : Nat → Nat → Nat) (μ : Mm) : Prop := (mm_I μ (X + 90) 46 = nI (A 8 0) ∧ mm_I μ (X + 90) 47 = nI (A 8 1) ∧ mm_I μ (X + 90) 48 = nI (A 8 2)) ∧
  (∀ i, i < A 8 0 → mm_I μ (X + 116) i = nI (A 0 i) ∧ mm_I μ (X + 117) i = nI (A 1 i) ∧ mm_I μ (X + 118) i = nI (A 2 i) ∧ mm_I μ (X + 119) i = nI (A 3 i) ∧ mm_I μ (X + 120) i = nI (A 4 i)) ∧
  (∀ i, i < A 8 1 → mm_I μ (X + 121) i = nI (A 5 i) ∧ mm_I μ (X + 122) i = nI (A 6 i) ∧ mm_I μ (X + 123) i = nI (A 7 i))
def Rr (X : Nat) (R : Nat → Rs) (μ : Mm) : Prop := (mm_I μ (X + 90) 64 = nI (R 0).1.toNat ∧ ((R 0).1 = true → mm_I μ (X + 90) 65 = nI (R 0).2.1 ∧ mm_L μ (X + 90) 67 = lN (R 0).2.2.1 ∧ mm_I μ (X + 90) 66 = nI (R 0).2.2.2.1 ∧ ∀ p, p < 8 → mm_I μ (X + 130) p = nI (bm ((R 0).2.2.2.2 p) 12))) ∧
  ∀ j, j < 3 → mm_I μ (X + 134) j = nI (R (j + 1)).1.toNat ∧ ((R (j + 1)).1 = true → mm_I μ (X + 131) j = nI (R (j + 1)).2.1 ∧ mm_L μ (X + 133) j = lN (R (j + 1)).2.2.1 ∧ mm_I μ (X + 132) j = nI (R (j + 1)).2.2.2.1 ∧ ∀ p, p < 8 → mm_I μ (X + 130) (8 * (j + 1) + p) = nI (bm ((R (j + 1)).2.2.2.2 p) 12))
/-- all of the class; all of the reference -/
abbrev Sv : Type := Tn × Nat × Nat × (Nat → Nat) × (Int32 × Int32) × (Nat → Nat → Nat) × (Nat → Rs)
def IC (X i c : Nat) (s : Sv) (μ : Mm) : Prop := Cb X c μ ∧ Ct X c s.1 s.2.1 μ ∧ Cp X s.2.2.1 s.2.2.2.1 μ ∧ Cf X s.2.2.2.2.1 μ ∧ (OkA s.1 s.2.2.2.2.2.1 ∧ Ca X s.2.2.2.2.2.1 μ) ∧ ((∀ j, OkRs s.1 i (s.2.2.2.2.2.2 j)) ∧ Cr X s.1 s.2.2.2.2.2.2 μ) ∧ Cc X s.1 s.2.2.2.2.2.1 μ
def IR (X : Nat) (s : Sv) (μ : Mm) : Prop := Sh X μ ∧ Rt X s.1 s.2.1 μ ∧ Rp X s.2.2.1 s.2.2.2.1 μ ∧ Rf X s.2.2.2.2.1 μ ∧ Ra X s.2.2.2.2.2.1 μ ∧ Rr X s.2.2.2.2.2.2 μ
/-- the class's region and the reference's -/
def inM (X q : Nat) : Prop := X + 90 ≤ q ∧ q ≤ X + 134
/-- only the class's cells have changed, only the reference's -/
def ChC (X : Nat) (μ μ' : Mm) : Prop := (∀ q, inM X q → mm_I μ' q = mm_I μ q) ∧ (∀ q, inM X q → mm_L μ' q = mm_L μ q) ∧ ∀ q, q < X → mm_I μ' q = mm_I μ q ∧ mm_K μ' q = mm_K μ q
def ChM (X : Nat) (μ μ' : Mm) : Prop := (∀ q, ¬ inM X q → mm_I μ' q = mm_I μ q) ∧ (∀ q, ¬ inM X q → mm_L μ' q = mm_L μ q) ∧ mm_P μ' = mm_P μ ∧ tl μ' = tl μ
theorem IR_x {X : Nat} {s : Sv} {μ μ' : Mm} (hs : Sh X μ') (h : ChC X μ μ') (hI : IR X s μ) : IR X s μ' := by
  obtain ⟨-, h1, h2, h3, h4, h5⟩ := hI
  have e := fun q h1 h2 => h.1 q (And.intro h1 h2)
  have e' := fun q h1 h2 => h.2.1 q (And.intro h1 h2)
  have e90 : mm_I μ' (X + 90) = mm_I μ (X + 90) := e _ (by omega) (by omega)
  refine ⟨hs, ?_, ?_, ?_, ?_, ?_⟩
  · unfold Rt at h1 ⊢
    rw [e90, e' (X + 110) (by omega) (by omega)]
    exact ⟨mtn_x (fun q h1 h2 => e q (by omega) (by omega)) h1.1, h1.2⟩
  · unfold Rp at h2 ⊢
    rw [e90, e (X + 91) (by omega) (by omega)]
    exact h2
  · unfold Rf at h3 ⊢
    rw [e90]
    exact h3
  · unfold Ra at h4 ⊢
    rw [e90, e (X + 116) (by omega) (by omega), e (X + 117) (by omega) (by omega), e (X + 118) (by omega) (by omega), e (X + 119) (by omega) (by omega), e (X + 120) (by omega) (by omega), e (X + 121) (by omega) (by omega), e (X + 122) (by omega) (by omega), e (X + 123) (by omega) (by omega)]
    exact h4
  · unfold Rr at h5 ⊢
    rw [e90, e' (X + 90) (by omega) (by omega), e (X + 130) (by omega) (by omega), e (X + 131) (by omega) (by omega), e (X + 132) (by omega) (by omega), e' (X + 133) (by omega) (by omega), e (X + 134) (by omega) (by omega)]
    exact h5
theorem cr1_x {a : Nat} {T : Tn} {r : Rs} {μ μ' : Mm} (h1 : mm_I μ' a = mm_I μ a) (h2 : mm_I μ' (a + 1) = mm_I μ (a + 1)) (h : Cr1 a T r μ) : Cr1 a T r μ' := by
  unfold Cr1 at h ⊢
  rw [h1, h2]
  exact h
/-- the class's scratch: cells that may change between calls, without harm -/
def scr (X q : Nat) : Prop := q = X + 3 ∨ q = X + 16 ∨ q = X + 17 ∨ q = X + 18 ∨ q = X + 19 ∨ q = X + 58 ∨ q = X + 62 ∨ q = X + 63
theorem ct_x {X c : Nat} {T : Tn} {t : Nat} {μ μ' : Mm} (hc : c = X + 21 ∨ c = X + 39) (hP : mm_P μ' = mm_P μ) (hI : ∀ q, X ≤ q → q < X + 66 → ¬ scr X q → q ≠ X → mm_I μ' q = mm_I μ q) (h15 : mm_I μ' X 15 = mm_I μ X 15) (h : Ct X c T t μ) : Ct X c T t μ' := by
  obtain ⟨h1, h2, h3, h4, h5, h6⟩ := h
  refine ⟨h1, h2, ctn_x (fun q _ _ => hI q (by omega) (by omega) (by unfold scr; omega) (by omega)) h3, tuP_x (fun q _ _ => hI q (by omega) (by omega) (by unfold scr; omega) (by omega)) h4, spT_x hP (fun q _ => hI q (by omega) (by omega) (by unfold scr; omega) (by omega)) h5, by rw [h15]; exact h6⟩
theorem cp_x {X n : Nat} {B : Nat → Nat} {μ μ' : Mm} (h1 : mm_I μ' (X + 1) = mm_I μ (X + 1)) (h2 : mm_I μ' (X + 2) = mm_I μ (X + 2)) (h : Cp X n B μ) : Cp X n B μ' := by
  unfold Cp at h ⊢
  rw [h1, h2]
  exact h
theorem cf_x {X : Nat} {F : Int32 × Int32} {μ μ' : Mm} (h1 : mm_I μ' (X + 57) = mm_I μ (X + 57)) (h : Cf X F μ) : Cf X F μ' := by
  unfold Cf at h ⊢
  rw [h1]
  exact h
theorem ca_x {X : Nat} {A : Nat → Nat → Nat} {μ μ' : Mm} (hI : ∀ q, X + 4 ≤ q → q < X + 13 → mm_I μ' q = mm_I μ q) (h : Ca X A μ) : Ca X A μ' := by
  unfold Ca at h ⊢
  rw [hI (X + 4) (by omega) (by omega), hI (X + 5) (by omega) (by omega), hI (X + 6) (by omega) (by omega), hI (X + 7) (by omega) (by omega), hI (X + 8) (by omega) (by omega), hI (X + 9) (by omega) (by omega), hI (X + 10) (by omega) (by omega), hI (X + 11) (by omega) (by omega), hI (X + 12) (by omega) (by omega)]
  exact h
theorem cr_x {X : Nat} {T : Tn} {R : Nat → Rs} {μ μ' : Mm} (hI : ∀ q, q = X + 13 ∨ q = X + 14 ∨ (X + 84 ≤ q ∧ q < X + 90) → mm_I μ' q = mm_I μ q) (h : Cr X T R μ) : Cr X T R μ' :=
  ⟨cr1_x (hI _ (by omega)) (hI _ (by omega)) h.1, cr1_x (hI _ (by omega)) (hI _ (by omega)) h.2.1, cr1_x (hI _ (by omega)) (hI _ (by omega)) h.2.2.1, cr1_x (hI _ (by omega)) (hI _ (by omega)) h.2.2.2⟩
theorem cc_x {X : Nat} {T : Tn} {A : Nat → Nat → Nat} {μ μ' : Mm} (hP : mm_P μ' = mm_P μ) (ht : tl μ' = tl μ) (h66 : ∀ k, 9 ≤ k → k < 15 → mm_I μ' (X + 66) k = mm_I μ (X + 66) k) (hI : ∀ q, q = X + 82 ∨ q = X + 83 ∨ X + 135 ≤ q → mm_I μ' q = mm_I μ q) (hL : ∀ q, (X + 68 ≤ q ∧ q < X + 80) ∨ X + 135 ≤ q → mm_L μ' q = mm_L μ q) (h : Cc X T A μ) : Cc X T A μ' := by
  obtain ⟨Rw, Ft, nr, sz, fo, Ml, Ln, as, h1, h2, h3, h4, h5, h6, h7, h8⟩ := h
  refine ⟨Rw, Ft, nr, sz, fo, Ml, Ln, as, ?_, ?_, h3, ?_, ?_, ?_, ?_, ?_⟩
  · rw [hP, tl_K ht, tl_N ht]; exact h1
  · rw [hP, tl_K ht, tl_N ht]; exact h2
  · rw [h66 9 (by omega) (by omega), h66 10 (by omega) (by omega), h66 11 (by omega) (by omega)]; exact h4
  · rw [hI Rw (by omega)]; exact h5
  · intro f hf
    obtain ⟨g1, g2, g3⟩ := h6 f hf
    refine ⟨g1, g2, fun k hk => ?_⟩
    have hf12 : f < 12 := by
      by_cases e : f < 12
      · exact e
      · have : fo < 2 ^ f := Nat.lt_of_lt_of_le h4.2.2.2.2 (Nat.pow_le_pow_right (by decide) (by omega))
        rw [Nat.testBit_lt_two_pow this] at hf
        cases hf
    have := (h2 f hf12).2.2.2.1
    rw [hL (Ml f) (by omega)]
    exact g3 k hk
  · intro ha
    rw [h66 12 (by omega) (by omega), h66 13 (by omega) (by omega), h66 14 (by omega) (by omega)]
    exact h7 ha
  · rw [tl_N ht, tl_Z ht]; exact h8
theorem IC_scr {X i c : Nat} {s : Sv} {μ μ' : Mm} (hP : mm_P μ' = mm_P μ) (ht : tl μ' = tl μ) (hI : ∀ q, ¬ scr X q → ¬ inM X q → q ≠ X → mm_I μ' q = mm_I μ q) (h15 : mm_I μ' X 15 = mm_I μ X 15) (hL : ∀ q, q ≠ X + 3 → q ≠ X + 20 → ¬ inM X q → mm_L μ' q = mm_L μ q) (h : IC X i c s μ) : IC X i c s μ' := by
  obtain ⟨h1, h2, h3, h4, ⟨h5a, h5⟩, ⟨h6a, h6⟩, h7⟩ := h
  have hi : ∀ q, (∃ k, q = X + k ∧ k ≠ 0 ∧ k ≠ 3 ∧ k ≠ 16 ∧ k ≠ 17 ∧ k ≠ 18 ∧ k ≠ 19 ∧ k ≠ 58 ∧ k ≠ 62 ∧ k ≠ 63 ∧ (k < 90 ∨ 134 < k)) → mm_I μ' q = mm_I μ q := fun q ⟨k, e, hk⟩ => by
    subst e
    exact hI _ (by unfold scr; omega) (by unfold inM; omega) (by omega)
  have hc := h1.2.1
  refine ⟨?_, ct_x (by omega) hP (fun q g1 g2 g3 g4 => hI q g3 (by unfold inM; omega) g4) h15 h2, cp_x (hi _ ⟨1, rfl, by omega⟩) (hi _ ⟨2, rfl, by omega⟩) h3, cf_x (hi _ ⟨57, rfl, by omega⟩) h4, ⟨h5a, ca_x (fun q g1 g2 => hi q ⟨q - X, by omega, by omega⟩) h5⟩, ⟨h6a, cr_x (fun q g => hi q ⟨q - X, by omega, by omega⟩) h6⟩, cc_x hP ht (fun k _ _ => by rw [hi (X + 66) ⟨66, rfl, by omega⟩]) (fun q g => hi q ⟨q - X, by omega, by omega⟩) (fun q g => hL q (by omega) (by omega) (by unfold inM; omega)) h7⟩
  unfold Cb at h1 ⊢
  show Shp X (mm_K μ') (mm_P μ') ∧ _
  rw [hP, tl_K ht]
  exact h1
theorem IC_M {X i c : Nat} {s : Sv} {μ μ' : Mm} (h : ChM X μ μ') (hI : IC X i c s μ) : IC X i c s μ' :=
  IC_scr h.2.2.1 h.2.2.2 (fun q _ h2 _ => h.1 q h2) (by rw [h.1 X (by unfold inM; omega)]) (fun q _ _ h3 => h.2.1 q h3) hI
/-- one call more -/
theorem IC_up {X i c : Nat} {s : Sv} {μ : Mm} (h : IC X i c s μ) : IC X (i + 1) c s μ := by
  obtain ⟨h1, h2, h3, h4, h5, ⟨h6a, h6⟩, h7⟩ := h
  exact ⟨h1, h2, h3, h4, h5, ⟨fun j hj => by have := h6a j hj; exact ⟨this.1, this.2.1, by omega, this.2.2.2⟩, h6⟩, h7⟩
theorem ChM_r (X : Nat) (μ : Mm) : ChM X μ μ := ⟨fun _ _ => rfl, fun _ _ => rfl, rfl, rfl⟩
theorem ChM_t {X : Nat} {μ μ' μ'' : Mm} (h : ChM X μ μ') (h' : ChM X μ' μ'') : ChM X μ μ'' := ⟨fun q hq => (h'.1 q hq).trans (h.1 q hq), fun q hq => (h'.2.1 q hq).trans (h.2.1 q hq), h'.2.2.1.trans h.2.2.1, h'.2.2.2.trans h.2.2.2⟩
theorem ChC_r (X : Nat) (μ : Mm) : ChC X μ μ := ⟨fun _ _ => rfl, fun _ _ => rfl, fun _ _ => ⟨rfl, rfl⟩⟩
/-- the script stays, and both halves agree -/
def Inv (b L : Nat) (xs : Nat → Int32) (X i : Nat) (μ : Mm) : Prop := (mm_K μ b = (19, L) ∧ mm_I μ b = xs ∧ b < X) ∧ ∃ c s, IC X i c s μ ∧ IR X s μ
/-- a call on both -/
theorem both {b L : Nat} {xs : Nat → Int32} {X i c' : Nat} {s s' : Sv} {α : Type} {r : α} {μ μ1 : Mm} {x : Option (α × Mm)} {y : Mm → Option (α × Mm)} (h0 : mm_K μ b = (19, L) ∧ mm_I μ b = xs ∧ b < X) (hR : IR X s μ) (hx : x = some (r, μ1)) (hC : IC X (i + 1) c' s' μ1) (hch : ChC X μ μ1) (hy : IR X s μ1 → ∃ μ2, y μ1 = some (r, μ2) ∧ IR X s' μ2 ∧ ChM X μ1 μ2) : ∃ r μ1 μ2, x = some (r, μ1) ∧ y μ1 = some (r, μ2) ∧ Inv b L xs X (i + 1) μ2 ∧ ((mm_K μ1 b = (19, L) ∧ mm_I μ1 b = xs)) := by
  obtain ⟨μ2, h1, h2, h3⟩ := hy (IR_x hC.1.1 hch hR)
  have hb1 : mm_K μ1 b = (19, L) ∧ mm_I μ1 b = xs := ⟨by rw [(hch.2.2 b h0.2.2).2]; exact h0.1, by rw [(hch.2.2 b h0.2.2).1]; exact h0.2.1⟩
  refine ⟨r, μ1, μ2, hx, h1, ⟨⟨by rw [tl_K h3.2.2.2]; exact hb1.1, by rw [h3.1 b (by unfold inM; have := h0.2.2; omega)]; exact hb1.2, h0.2.2⟩, c', s', IC_M h3 hC, h2⟩, hb1⟩
