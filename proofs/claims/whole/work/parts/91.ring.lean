/-! ===== rings ===== -/
theorem php : ∀ (n : Nat) (f : Nat → Nat), (∀ i, i ≤ n → f i < n) → ∃ i j, i < j ∧ j ≤ n ∧ f i = f j := by
  intro n
  induction n with
  | zero => intro f h; exact absurd (h 0 (Nat.le_refl _)) (Nat.not_lt_zero _)
  | succ n ih =>
    intro f h
    by_cases hx : ∃ i, i < n + 1 ∧ f i = f (n + 1)
    · obtain ⟨i, h1, h2⟩ := hx
      exact ⟨i, n + 1, h1, Nat.le_refl _, h2⟩
    · have hne : ∀ i, i ≤ n → f i ≠ f (n + 1) := fun i hi he => hx ⟨i, by omega, he⟩
      have hl := h (n + 1) (Nat.le_refl _)
      obtain ⟨i, j, h1, h2, h3⟩ := ih (fun i => if f i < f (n + 1) then f i else f i - 1) (fun i hi => by
        have a1 := h i (by omega)
        have a2 := hne i hi
        show (if f i < f (n + 1) then f i else f i - 1) < n
        by_cases q : f i < f (n + 1)
        · rw [if_pos q]; omega
        · rw [if_neg q]; omega)
      have a1 := hne i (by omega)
      have a2 := hne j h2
      refine ⟨i, j, h1, by omega, ?_⟩
      have h3 : (if f i < f (n + 1) then f i else f i - 1) = (if f j < f (n + 1) then f j else f j - 1) := h3
      split at h3 <;> split at h3 <;> omega
def itd (d : Nat → Nat) : Nat → Nat → Nat
  | 0, p => p
  | n + 1, p => d (itd d n p)
/-- d turns those who dream among themselves -/
def Rg (n : Nat) (a : Nat → Bool) (d : Nat → Nat) : Prop := n ≤ 8 ∧ (∀ p, p < n → a p = true → d p = 15) ∧ (∀ p, p < n → a p = false → d p < n ∧ a (d p) = false) ∧ ∀ p q, p < n → q < n → a p = false → a q = false → d p = d q → p = q
theorem dr_Rg {T : Tn} (ok : OkT T) {t : Nat} (h : t < (EN T).length) : Rg (T 0 0) (T 0 7).testBit (dr T t) := by
  have hn := ok.1.1
  obtain ⟨h1, h2, h3, h4⟩ := EN_dig ok (rwT_mem h)
  have hd : ∀ p, p < T 0 0 → dr T t p = nb (rwT T t) p := fun p hp => if_pos hp
  refine ⟨hn, fun p hp ha => by rw [hd p hp]; exact h1 p hp ha, fun p hp ha => ?_, fun p q hp hq ha hb he => ?_⟩
  · rw [hd p hp]
    have := okc_lt ok (by omega) (h3 p hp ha).1
    exact ⟨this.1, this.2.1⟩
  · rw [hd p hp, hd q hq] at he
    exact h4 p q hp hq ha hb he
theorem itd_in {n : Nat} {a : Nat → Bool} {d : Nat → Nat} (h : Rg n a d) {p : Nat} (hp : p < n) (ha : a p = false) : ∀ k, itd d k p < n ∧ a (itd d k p) = false := by
  intro k
  induction k with
  | zero => exact ⟨hp, ha⟩
  | succ k ih => exact h.2.2.1 _ ih.1 ih.2
theorem itd_sub {n : Nat} {a : Nat → Bool} {d : Nat → Nat} (h : Rg n a d) {p : Nat} (hp : p < n) (ha : a p = false) : ∀ i j, itd d i p = itd d (i + j) p → itd d j p = p := by
  intro i
  induction i with
  | zero => intro j e; rw [Nat.zero_add] at e; exact e.symm
  | succ i ih =>
    intro j e
    apply ih j
    have e : d (itd d i p) = d (itd d (i + j) p) := by
      have e2 : itd d (i + 1 + j) p = d (itd d (i + j) p) := by rw [show i + 1 + j = i + j + 1 by omega]; rfl
      rw [← e2]; exact e
    exact h.2.2.2 _ _ (itd_in h hp ha i).1 (itd_in h hp ha (i + j)).1 (itd_in h hp ha i).2 (itd_in h hp ha (i + j)).2 e
/-- one comes back within eight -/
theorem ring_ret {n : Nat} {a : Nat → Bool} {d : Nat → Nat} (h : Rg n a d) {p : Nat} (hp : p < n) (ha : a p = false) : ∃ k, k < 8 ∧ itd d (k + 1) p = p ∧ ∀ l, l < k → itd d (l + 1) p ≠ p := by
  obtain ⟨i, j, h1, h2, h3⟩ := php 8 (fun k => itd d k p) (fun k _ => Nat.lt_of_lt_of_le (itd_in h hp ha k).1 h.1)
  have h4 : itd d (j - i) p = p := itd_sub h hp ha i (j - i) (by rw [show i + (j - i) = j by omega]; exact h3)
  cases e : ff (fun k => itd d (k + 1) p == p) 8 with
  | none =>
    have := ff_none.mp e (j - i - 1) (by omega)
    rw [show j - i - 1 + 1 = j - i by omega, h4] at this
    simp at this
  | some k =>
    obtain ⟨g1, g2, g3⟩ := ff_some.mp e
    exact ⟨k, g1, by simpa using g2, fun l hl => by have := g3 l hl; simpa using this⟩
/-- the ring of one -/
def orb (d : Nat → Nat) (p q : Nat) : Bool := anyb (fun k => itd d k p == q) 8
theorem itd_add (d : Nat → Nat) (p : Nat) : ∀ j i, itd d (i + j) p = itd d j (itd d i p) := by
  intro j
  induction j with
  | zero => intro i; rfl
  | succ j ih => intro i; show d (itd d (i + j) p) = d (itd d j (itd d i p)); rw [ih]
theorem itd_per {d : Nat → Nat} {p k : Nat} (h : itd d (k + 1) p = p) : ∀ j, ∃ i, i < k + 1 ∧ itd d j p = itd d i p := by
  intro j
  induction j with
  | zero => exact ⟨0, by omega, rfl⟩
  | succ j ih =>
    obtain ⟨i, h1, h2⟩ := ih
    by_cases e : i = k
    · refine ⟨0, by omega, ?_⟩
      show d (itd d j p) = p
      rw [h2, e]; exact h
    · exact ⟨i + 1, by omega, by show d (itd d j p) = d (itd d i p); rw [h2]⟩
theorem orb_t {d : Nat → Nat} {p k q : Nat} (hk : k < 8) (h : itd d (k + 1) p = p) : orb d p q = true ↔ ∃ j, itd d j p = q := by
  unfold orb
  rw [anyb_t]
  constructor
  · rintro ⟨j, _, h2⟩; exact ⟨j, by simpa using h2⟩
  · rintro ⟨j, h2⟩
    obtain ⟨i, h3, h4⟩ := itd_per h j
    exact ⟨i, by omega, by rw [← h4, h2]; simp⟩
theorem orb_len {d : Nat → Nat} {p k q : Nat} (hk : k < 8) (h : itd d (k + 1) p = p) : orb d p q = anyb (fun j => itd d j p == q) (k + 1) := by
  rw [Bool.eq_iff_iff, orb_t hk h, anyb_t]
  constructor
  · rintro ⟨j, h2⟩
    obtain ⟨i, h3, h4⟩ := itd_per h j
    exact ⟨i, h3, by rw [← h4, h2]; simp⟩
  · rintro ⟨j, _, h2⟩; exact ⟨j, by simpa using h2⟩
/-- rings counted: those of the first j -/
def seenR (n : Nat) (a : Nat → Bool) (d : Nat → Nat) (j q : Nat) : Bool := anyb (fun p => decide (p < n) && !a p && orb d p q) j
def cntR (n : Nat) (a : Nat → Bool) (d : Nat → Nat) : Nat → Nat
  | 0 => 0
  | j + 1 => cntR n a d j + (if a j = false ∧ seenR n a d j j = false then 1 else 0)
theorem cntR_le (n : Nat) (a : Nat → Bool) (d : Nat → Nat) : ∀ j, cntR n a d j ≤ j := by
  intro j
  induction j with
  | zero => exact Nat.le_refl _
  | succ j ih => show _ + _ ≤ _; split <;> omega
theorem seen_back {n : Nat} {a : Nat → Bool} {d : Nat → Nat} (h : Rg n a d) {j q : Nat} (hq : q < n) (ha : a q = false) : seenR n a d j (d q) = true → seenR n a d j q = true := by
  unfold seenR
  rw [anyb_t, anyb_t]
  rintro ⟨p, h1, h2⟩
  have hp : p < n := by
    by_cases e : p < n
    · exact e
    · rw [decide_eq_false e] at h2; cases h2
  have hpa : a p = false := by
    cases e : a p with
    | false => rfl
    | true => rw [e] at h2; simp at h2
  obtain ⟨k, k1, k2, -⟩ := ring_ret h hp hpa
  have h3 : orb d p (d q) = true := by
    rw [decide_eq_true hp, hpa] at h2
    simpa using h2
  refine ⟨p, h1, ?_⟩
  have h4 : orb d p q = true := by
    rw [orb_t k1 k2] at h3 ⊢
    obtain ⟨i, hi⟩ := h3
    cases i with
    | zero =>
      have hi : p = d q := hi
      have e : d (itd d k p) = d q := by show itd d (k + 1) p = d q; rw [k2, hi]
      exact ⟨k, h.2.2.2 _ _ (itd_in h hp hpa k).1 hq (itd_in h hp hpa k).2 ha e⟩
    | succ i => exact ⟨i, h.2.2.2 _ _ (itd_in h hp hpa i).1 hq (itd_in h hp hpa i).2 ha hi⟩
  rw [decide_eq_true hp, hpa, h4]; rfl
theorem seen_it {n : Nat} {a : Nat → Bool} {d : Nat → Nat} (h : Rg n a d) {j p : Nat} (hp : p < n) (ha : a p = false) (hs : seenR n a d j p = false) : ∀ k, seenR n a d j (itd d k p) = false := by
  intro k
  induction k with
  | zero => exact hs
  | succ k ih =>
    cases e : seenR n a d j (itd d (k + 1) p) with
    | false => rfl
    | true =>
      have := seen_back h (itd_in h hp ha k).1 (itd_in h hp ha k).2 e
      rw [ih] at this; cases this
theorem seen_s (n : Nat) (a : Nat → Bool) (d : Nat → Nat) (j q : Nat) : seenR n a d (j + 1) q = (seenR n a d j q || (decide (j < n) && !a j && orb d j q)) := rfl
/-- one who is seen: the whole ring is -/
theorem seen_all {n : Nat} {a : Nat → Bool} {d : Nat → Nat} {j p : Nat} (h : Rg n a d) (hp : p < n) (ha : a p = false) (hs : seenR n a d j p = true) (q : Nat) : (seenR n a d j q || orb d p q) = seenR n a d j q := by
  cases e : orb d p q with
  | false => rw [Bool.or_false]
  | true =>
    obtain ⟨k, k1, k2, -⟩ := ring_ret h hp ha
    rw [orb_t k1 k2] at e
    obtain ⟨i, hi⟩ := e
    have : seenR n a d j q = true := by
      unfold seenR at hs ⊢
      rw [anyb_t] at hs ⊢
      obtain ⟨r, r1, r2⟩ := hs
      refine ⟨r, r1, ?_⟩
      have hr : r < n := by
        by_cases e : r < n
        · exact e
        · rw [decide_eq_false e] at r2; cases r2
      have hra : a r = false := by
        cases e : a r with
        | false => rfl
        | true => rw [e] at r2; simp at r2
      obtain ⟨l, l1, l2, -⟩ := ring_ret h hr hra
      rw [decide_eq_true hr, hra] at r2 ⊢
      have r3 : orb d r p = true := by simpa using r2
      rw [orb_t l1 l2] at r3
      obtain ⟨m, hm⟩ := r3
      have : orb d r q = true := by
        rw [orb_t l1 l2]
        exact ⟨m + i, by rw [itd_add, hm, hi]⟩
      rw [this]; rfl
    rw [this]; rfl
section CALLS
variable {X i c : Nat} {s : Sv} {μ : Mm}
theorem c_dream {p : Nat} (h : IC X i c s μ) (hp : p < s.1 0 0) : (gf_I 11 15 X μ).bind (fun x => f_X9_dreamOf x (nI p) μ) = some (dI (dr s.1 s.2.1 p)) := by
  have hn := h.2.1.1.1.1
  rw [rf_0 h.1.1, ob, h.2.1.2.2.2.2.2, e_dreamOf (cr_lt _ _) (by omega), dr_nb (by omega)]
theorem k_ring (a : Int32) (h : IC X i c s μ) (hR : IR X s μ) : ∃ r, f_X10_ring X a μ = some r ∧ f_X11_ring (X + 90) a μ = some r := by
  have h1 := h.1.1
  have hw := cb_w h.1
  have hp := cb_p h.1
  obtain ⟨ok, ht, hct, -, -, h15⟩ := h.2.1
  have hm := hR.2.1.1
  have hn := ok.1.1
  have rg := dr_Rg ok ht
  have od := dr_ok ok ht
  have hdI : ∀ p, p < s.1 0 0 → (s.1 0 7).testBit p = false → dI (dr s.1 s.2.1 p) = nI (dr s.1 s.2.1 p) := fun p hp ha => if_neg (by have := (rg.2.2.1 p hp ha).1; omega)
  have hcd : ∀ p, p < s.1 0 0 → f_X9_dreamOf (nI (cr s.1 (rwT s.1 s.2.1))) (nI p) μ = some (dI (dr s.1 s.2.1 p)) := fun p hp => by rw [e_dreamOf (cr_lt _ _) (by omega), dr_nb (by omega)]
  have hrd := fun p hp => dr_R ok ht p hp μ
  have hrow := r_row h1 hR.2.1 ok ht
  have h33 := hR.2.1.2.2.2.1
  by_cases em : a = -1
  · subst em
    -- how many
    have hro : ∀ p, p < s.1 0 0 → (s.1 0 7).testBit p = false → f_X10_ringOf X (nI p) μ = some (nI (bm (orb (dr s.1 s.2.1) p) 8)) := by
      intro p hp1 ha
      unfold f_X10_ringOf
      rw [if_pos (by rw [mk_0 h1])]
      refine whl_b 8 (fun k => (nI (bm (fun q => anyb (fun j => itd (dr s.1 s.2.1) j p == q) k) 8), nI (itd (dr s.1 s.2.1) k p), nI k)) ?_ (fun k hk => ?_) ?_
      · show _ = (nI (bm (fun _ => false) 8), _, _)
        rw [← bm_0]; rfl
      · have hit := itd_in rg hp1 ha k
        simp only [f_X10_ringOf_L7]
        rw [if_neg (by rw [show (8 : Int32) = nI 8 from rfl, nI_le_i (by omega) (by omega)]; omega), if_neg (neg1_ne (by omega)), b_one (by omega), nI_or, bm_set _ (by omega), ob, rf_0 h1, ob, h15, hcd _ hit.1, ob, hdI _ hit.1 hit.2, ob, nI_1]
        show some (Sum.inl (nI (bm _ 8), _, _)) = some (Sum.inl (nI (bm _ 8), _, _))
        rw [bm_x (c := fun q => anyb (fun j => itd (dr s.1 s.2.1) j p == q) (k + 1)) (fun q hq => by
          show (anyb _ k || q == itd (dr s.1 s.2.1) k p) = (anyb _ k || itd (dr s.1 s.2.1) k p == q)
          rw [Bool.beq_comm])]
        rfl
      · simp only [f_X10_ringOf_L7]
        rw [if_pos (by decide)]
        rfl
    refine ⟨nI (cntR (s.1 0 0) (s.1 0 7).testBit (dr s.1 s.2.1) (s.1 0 0)), ?_, ?_⟩
    · unfold f_X10_ring f_X10_howManyRings
      rw [if_pos (by rw [mk_0 h1]), if_pos rfl, if_pos (by rw [mk_0 h1])]
      rw [whl_c (s.1 0 0) (fun j => (nI (cntR (s.1 0 0) (s.1 0 7).testBit (dr s.1 s.2.1) j), nI (bm (seenR (s.1 0 0) (s.1 0 7).testBit (dr s.1 s.2.1) j) 8), nI j)) (b := nI (cntR (s.1 0 0) (s.1 0 7).testBit (dr s.1 s.2.1) (s.1 0 0))) (s0 := ((0 : Int32), (0 : Int32), (0 : Int32))) ?_ ?_ ?_]
      · rfl
      · show _ = (_, nI (bm (fun _ => false) 8), _)
        rw [← bm_0]; rfl
      · intro j hj
        simp only [f_X10_howManyRings_L6, f_X10_howManyRings_J47]
        rw [hp, ob, ct_n hw hct, ob, if_neg (by rw [nI_le_i (by omega) (by omega)]; omega), bmb (by omega) (by decide), ob, e_isAlone hw hct ok (by omega), ob, ob, nI_1, nI_1]
        simp only [nI_b0, ob]
        show _ = some (Sum.inl (nI (cntR _ _ _ j + _), _, _))
        have hsx : bm (seenR (s.1 0 0) (s.1 0 7).testBit (dr s.1 s.2.1) (j + 1)) 8 = bm (fun q => seenR (s.1 0 0) (s.1 0 7).testBit (dr s.1 s.2.1) j q || (!(s.1 0 7).testBit j && orb (dr s.1 s.2.1) j q)) 8 := bm_x (fun q hq => by rw [seen_s, decide_eq_true hj, Bool.true_and])
        rw [hsx]
        cases es : seenR (s.1 0 0) (s.1 0 7).testBit (dr s.1 s.2.1) j j with
        | true =>
          rw [if_neg (by decide), if_neg (fun q => by cases q.2)]
          cases ea : (s.1 0 7).testBit j with
          | true => simp only [Bool.not_true, Bool.false_and, Bool.or_false]; rfl
          | false =>
            have := bm_x (n := 8) (fun q (_ : q < 8) => seen_all rg hj ea es q)
            simp only [Bool.not_false, Bool.true_and]
            rw [this]; rfl
        | false =>
          rw [if_pos rfl]
          cases ea : (s.1 0 7).testBit j with
          | true => rw [if_neg (by decide), if_neg (fun q => by cases q.1)]; simp only [Bool.not_true, Bool.false_and, Bool.or_false]; rfl
          | false =>
            rw [if_pos rfl, hro j hj ea, ob, nI_or, bm_or, if_pos ⟨rfl, rfl⟩]
            simp only [Bool.not_false, Bool.true_and]
      · simp only [f_X10_howManyRings_L6]
        rw [hp, ob, ct_n hw hct, ob, if_pos (nI_le (Nat.le_refl _) (by omega))]
    · unfold f_X11_ring
      rw [if_pos (by rw [mk_90 h1]), if_pos rfl]
      rw [whl_c (s.1 0 0) (fun j => (nI (cntR (s.1 0 0) (s.1 0 7).testBit (dr s.1 s.2.1) j), nI (bm (seenR (s.1 0 0) (s.1 0 7).testBit (dr s.1 s.2.1) j) 8), nI j)) (b := nI (cntR (s.1 0 0) (s.1 0 7).testBit (dr s.1 s.2.1) (s.1 0 0))) (s0 := ((0 : Int32), (0 : Int32), (0 : Int32))) ?_ ?_ ?_]
      · rfl
      · show _ = (_, nI (bm (fun _ => false) 8), _)
        rw [← bm_0]; rfl
      · intro j hj
        simp only [f_X11_ring_L31, f_X11_ring_J106]
        rw [rp_90_12 h1, ob, mr_n0 h1 hm, ob, if_neg (by rw [nI_le_i (by omega) (by omega)]; omega), e_isAloneR h1 hm ok (by omega), ob, bmb (by omega) (by decide), ob, ob, nI_1, nI_1]
        simp only [nI_b0, nI_b1, ob]
        show _ = some (Sum.inl (nI (cntR _ _ _ j + _), _, _))
        have hsx : bm (seenR (s.1 0 0) (s.1 0 7).testBit (dr s.1 s.2.1) (j + 1)) 8 = bm (fun q => seenR (s.1 0 0) (s.1 0 7).testBit (dr s.1 s.2.1) j q || (!(s.1 0 7).testBit j && orb (dr s.1 s.2.1) j q)) 8 := bm_x (fun q hq => by rw [seen_s, decide_eq_true hj, Bool.true_and])
        rw [hsx]
        cases ea : (s.1 0 7).testBit j with
        | true =>
          rw [if_neg (by decide), if_neg (fun q => by cases q.1)]
          simp only [Bool.not_true, Bool.false_and, Bool.or_false]; rfl
        | false =>
          rw [if_pos rfl]
          cases es : seenR (s.1 0 0) (s.1 0 7).testBit (dr s.1 s.2.1) j j with
          | true =>
            rw [if_pos rfl, if_neg (fun q => by cases q.2)]
            have := bm_x (n := 8) (fun q (_ : q < 8) => seen_all rg hj ea es q)
            simp only [Bool.not_false, Bool.true_and]
            rw [this]; rfl
          | false =>
            rw [if_neg (by decide), if_pos ⟨rfl, rfl⟩]
            obtain ⟨k, k1, k2, k3⟩ := ring_ret rg hj ea
            rw [whl_c (k + 1) (fun x => (nI (bm (fun q => seenR (s.1 0 0) (s.1 0 7).testBit (dr s.1 s.2.1) j q || anyb (fun y => itd (dr s.1 s.2.1) y j == q) x) 8), nI (itd (dr s.1 s.2.1) x j))) (b := nI (bm (fun q => seenR (s.1 0 0) (s.1 0 7).testBit (dr s.1 s.2.1) j q || anyb (fun y => itd (dr s.1 s.2.1) y j == q) (k + 1)) 8)) (s0 := (nI (bm (seenR (s.1 0 0) (s.1 0 7).testBit (dr s.1 s.2.1) j) 8), nI j)) ?_ ?_ ?_, ob]
            · have : bm (fun q => seenR (s.1 0 0) (s.1 0 7).testBit (dr s.1 s.2.1) j q || anyb (fun y => itd (dr s.1 s.2.1) y j == q) (k + 1)) 8 = bm (fun q => seenR (s.1 0 0) (s.1 0 7).testBit (dr s.1 s.2.1) j q || (!false && orb (dr s.1 s.2.1) j q)) 8 := bm_x (fun q hq => by rw [orb_len k1 k2]; simp)
              rw [this]
            · show _ = (nI (bm _ 8), nI j)
              rw [bm_x (n := 8) (c := seenR (s.1 0 0) (s.1 0 7).testBit (dr s.1 s.2.1) j) (b := fun q => seenR (s.1 0 0) (s.1 0 7).testBit (dr s.1 s.2.1) j q || anyb (fun y => itd (dr s.1 s.2.1) y j == q) 0) (fun q hq => by simp [anyb])]
            · intro x hx
              have hit := itd_in rg hj ea x
              have hns : (seenR (s.1 0 0) (s.1 0 7).testBit (dr s.1 s.2.1) j (itd (dr s.1 s.2.1) x j) || anyb (fun y => itd (dr s.1 s.2.1) y j == itd (dr s.1 s.2.1) x j) x) = false := by
                rw [seen_it rg hj ea es x, Bool.false_or, anyb_f]
                intro y hy
                have : itd (dr s.1 s.2.1) y j ≠ itd (dr s.1 s.2.1) x j := fun e => by
                  have h9 := itd_sub rg hj ea y (x - y) (by rw [show y + (x - y) = x by omega]; exact e)
                  exact k3 (x - y - 1) (by omega) (by rw [show x - y - 1 + 1 = x - y by omega]; exact h9)
                simpa using this
              simp only [f_X11_ring_L71]
              rw [bmb (by omega) (by decide), hns, if_pos (show nI false.toNat = 0 from rfl), ob, rp_90_34 h1, ob, rf_90 h1, ob, h33, hrow, ob, hrd _ hit.1, ob, hdI _ hit.1 hit.2, b_one (by omega), nI_or, bm_set _ (by omega)]
              show some (Sum.inl (nI (bm _ 8), _)) = some (Sum.inl (nI (bm _ 8), _))
              rw [bm_x (n := 8) (c := fun q => seenR (s.1 0 0) (s.1 0 7).testBit (dr s.1 s.2.1) j q || anyb (fun y => itd (dr s.1 s.2.1) y j == q) (x + 1)) (fun q hq => by
                show (_ || _ || q == itd (dr s.1 s.2.1) x j) = (_ || (_ || itd (dr s.1 s.2.1) x j == q))
                rw [Bool.beq_comm, Bool.or_assoc])]
              rfl
            · have hs9 : (seenR (s.1 0 0) (s.1 0 7).testBit (dr s.1 s.2.1) j (itd (dr s.1 s.2.1) (k + 1) j) || anyb (fun y => itd (dr s.1 s.2.1) y j == itd (dr s.1 s.2.1) (k + 1) j) (k + 1)) = true := by
                rw [Bool.or_eq_true]
                right
                rw [anyb_t]
                exact ⟨0, by omega, by rw [k2]; show (j == j) = true; simp⟩
              simp only [f_X11_ring_L71]
              rw [k2] at hs9 ⊢
              rw [bmb (by omega) (by decide), hs9, if_neg (by decide)]
      · simp only [f_X11_ring_L31]
        rw [rp_90_12 h1, ob, mr_n0 h1 hm, ob, if_pos (nI_le (Nat.le_refl _) (by omega))]
  · unfold f_X10_ring f_X11_ring
    simp only [kt_0 h1, kt_90 h1, if_true, if_neg em, hp, ob, e_isPerson' hw hct ok, r_isPerson h1 hm ok, bz_if]
    by_cases e1 : inR a (s.1 0 0)
    · obtain ⟨p, hp1, rfl⟩ := inR_ex e1 (by omega)
      rw [if_pos e1, if_pos e1]
      cases ea : (s.1 0 7).testBit p with
      | true =>
        have h15' := rg.2.1 p hp1 ea
        have hd15 : dI (dr s.1 s.2.1 p) = -1 := if_pos h15'
        refine ⟨0, ?_, ?_⟩
        · unfold f_X10_ringLength
          rw [if_pos (by rw [mk_0 h1]), rf_0 h1, ob, h15, hcd p hp1, ob, hd15, if_pos rfl, ob]
        · unfold f_X11_ringOf f_X11_ringOf_J31
          have : f_X11_ringOf_L4 (X + 90) (nI p) μ ((0 : Int32), nI p) = some (.inr (1, -1)) := by
            simp only [f_X11_ringOf_L4]
            rw [rp_90_34 h1, ob, rf_90 h1, ob, h33, hrow, ob, hrd p hp1, ob, hd15, ob, if_pos rfl]
            rfl
          rw [if_pos (by rw [mk_90 h1]), whl_r this, ob, if_pos rfl, ob]
      | false =>
        obtain ⟨k, k1, k2, k3⟩ := ring_ret rg hp1 ea
        refine ⟨nI (k + 1), ?_, ?_⟩
        · unfold f_X10_ringLength
          have hd1 := hdI p hp1 ea
          have hlt := (rg.2.2.1 p hp1 ea).1
          rw [if_pos (by rw [mk_0 h1]), rf_0 h1, ob, h15, hcd p hp1, ob, hd1, if_neg (neg1_ne (by omega))]
          rw [whl_c k (fun x => (nI (itd (dr s.1 s.2.1) (x + 1) p), nI (x + 1))) (b := nI (k + 1)) (s0 := (nI (dr s.1 s.2.1 p), (1 : Int32))) rfl ?_ ?_]
          · rfl
          · intro x hx
            have hit := itd_in rg hp1 ea (x + 1)
            simp only [f_X10_ringLength_L18]
            rw [if_neg (by rw [nI_eq_i (by omega) (by omega)]; exact k3 x hx), if_neg (by rw [show (8 : Int32) = nI 8 from rfl, nI_le_i (by omega) (by omega)]; omega), rf_0 h1, ob, h15, hcd _ hit.1, ob, hdI _ hit.1 hit.2, ob, nI_1]
            rfl
          · simp only [f_X10_ringLength_L18]
            rw [k2, if_pos rfl]
        · unfold f_X11_ringOf f_X11_ringOf_J31
          rw [if_pos (by rw [mk_90 h1])]
          rw [whl_c k (fun x => (nI x, nI (itd (dr s.1 s.2.1) x p))) (b := (nI (k + 1), nI p)) (s0 := ((0 : Int32), nI p)) rfl ?_ ?_]
          · rw [ob, if_neg (neg1_ne (by omega)), ob]
          · intro x hx
            have hit := itd_in rg hp1 ea x
            have hit2 := itd_in rg hp1 ea (x + 1)
            have hit2 : dr s.1 s.2.1 (itd (dr s.1 s.2.1) x p) < s.1 0 0 := hit2.1
            simp only [f_X11_ringOf_L4]
            rw [rp_90_34 h1, ob, rf_90 h1, ob, h33, hrow, ob, hrd _ hit.1, ob, hdI _ hit.1 hit.2, ob, if_neg (neg1_ne (by omega)), if_neg (by rw [nI_eq_i (by omega) (by omega)]; exact k3 x hx), nI_1]
            rfl
          · have hit := itd_in rg hp1 ea k
            have k2' : dr s.1 s.2.1 (itd (dr s.1 s.2.1) k p) = p := k2
            simp only [f_X11_ringOf_L4]
            rw [rp_90_34 h1, ob, rf_90 h1, ob, h33, hrow, ob, hrd _ hit.1, ob, hdI _ hit.1 hit.2, k2', ob, if_neg (neg1_ne (by omega)), if_pos rfl, nI_1]
    · rw [if_neg e1, if_neg e1]
      exact ⟨_, rfl, rfl⟩
end CALLS
