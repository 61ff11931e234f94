/-! ===== tokens: the model's reader of the tape ===== -/
theorem sx_i {i : Nat} {μ : Mm} (hi : i < 14) (hS : ∀ i j, i < 14 → j < 14 → mm_S μ i = mm_S μ j → i = j) : sx_ix (mm_S μ i) μ = some i := by
  unfold sx_ix
  rw [List.find?_range_eq_some]
  refine ⟨by simp, by simpa using hi, fun j hj => ?_⟩
  have : ¬ mm_S μ j = mm_S μ i := fun e => by have := hS j i (by omega) hi e; omega
  simpa using this
/-- the class's number of the model's word -/
def kp (i : Nat) : Nat := [0, 1, 2, 3, 4, 5, 9, 11, 10, 6, 7, 8, 12].getD i 0
def wLn (i : Nat) : Nat := s_ln.getD (kp i) 0
def wOff : Nat → Nat
  | 0 => 0
  | i + 1 => wOff i + wLn i + 1
def sB (k : Nat) : Int32 := (s_by.getD 13 []).getD k 0
theorem sx_l13 {μ : Mm} (hS : ∀ i j, i < 14 → j < 14 → mm_S μ i = mm_S μ j → i = j) : sx_len (mm_S μ 13) μ = some (nI 69) := by
  unfold sx_len
  rw [sx_i (by decide) hS]; rfl
theorem sx_a13 {k : Nat} {μ : Mm} (hS : ∀ i j, i < 14 → j < 14 → mm_S μ i = mm_S μ j → i = j) (hk : k < 69) : sx_at (mm_S μ 13) (nI k) μ = some (sB k) := by
  unfold sx_at
  rw [sx_i (by decide) hS, ob]
  have e : s_ln.getD 13 0 = 69 := rfl
  rw [e, nI_toInt (by omega), if_pos ⟨by omega, by omega⟩, nI_clamp (by omega)]
  rfl
theorem w_sp : ∀ i, i < 13 → sB (wOff i + wLn i) = 32 ∧ wOff i + wLn i < 69 := by decide +kernel
theorem w_in : ∀ i, i < 13 → ∀ k, k < wLn i → sB (wOff i + k) ≠ 32 := by decide +kernel
theorem w_end : wOff 13 = 69 := by decide +kernel
theorem w_by : ∀ i, i < 13 → ∀ k, k < wLn i → sB (wOff i + k) = (s_by.getD (kp i) []).getD k 0 := by decide +kernel
theorem w_ln : ∀ i, i < 13 → 1 ≤ wLn i ∧ wLn i ≤ 6 := by decide +kernel
theorem w_lt {i k : Nat} (hi : i < 13) (hk : k ≤ wLn i) : wOff i + k < 69 := by have := (w_sp i hi).2; omega
def kEq (B : Nat → Nat) (j len i : Nat) : Bool := (wLn i == len) && !anyb (fun k => !(sB (wOff i + k) == nI (B (j + k)))) len
/-- the word that stands there, if it is one of the thirteen -/
def kwd (B : Nat → Nat) (j len : Nat) : Option Nat := ff (kEq B j len) 13
theorem byte_m : ∀ v, v < 256 → (nI v).toInt8.toInt32 &&& (255 : Int32) = nI v := by decide +kernel
def RTp (X n : Nat) (B : Nat → Nat) (μ : Mm) : Prop := mm_I μ (X + 90) 2 = nI n ∧ n ≤ 900 ∧ (∀ i, B i < 256) ∧ ∀ i, i < n → mm_I μ (X + 91) i = (nI (B i)).toInt8.toInt32
def FrS (X : Nat) (μ μ' : Mm) : Prop := mm_P μ' = mm_P μ ∧ tl μ' = tl μ ∧ (∀ q, q ≠ X + 90 → mm_I μ' q = mm_I μ q) ∧ (∀ q, q ≠ X + 90 → mm_L μ' q = mm_L μ q) ∧ (∀ k, k < 3 ∨ 7 < k → mm_I μ' (X + 90) k = mm_I μ (X + 90) k) ∧ ∀ k, k ≠ 10 → mm_L μ' (X + 90) k = mm_L μ (X + 90) k
theorem FrS_r (X : Nat) (μ : Mm) : FrS X μ μ := ⟨rfl, rfl, fun _ _ => rfl, fun _ _ => rfl, fun _ _ => rfl, fun _ _ => rfl⟩
theorem FrS_t {X : Nat} {μ μ' μ'' : Mm} (h : FrS X μ μ') (h' : FrS X μ' μ'') : FrS X μ μ'' := ⟨h'.1.trans h.1, h'.2.1.trans h.2.1, fun q hq => (h'.2.2.1 q hq).trans (h.2.2.1 q hq), fun q hq => (h'.2.2.2.1 q hq).trans (h.2.2.2.1 q hq), fun q hq => (h'.2.2.2.2.1 q hq).trans (h.2.2.2.2.1 q hq), fun q hq => (h'.2.2.2.2.2 q hq).trans (h.2.2.2.2.2 q hq)⟩
theorem FrS_I {X k : Nat} {v : Int32} {μ : Mm} (hk : 3 ≤ k ∧ k ≤ 7) : FrS X μ (ms_I μ (X + 90) k v) := ⟨rfl, rfl, fun q hq => by rw [iI, if_neg hq], fun _ _ => rfl, fun q hq => by rw [rI, if_neg (by omega)], fun _ _ => rfl⟩
theorem FrS_L {X : Nat} {v : Int64} {μ : Mm} : FrS X μ (ms_L μ (X + 90) 10 v) := ⟨rfl, rfl, fun _ _ => rfl, fun q hq => by rw [lL, if_neg hq], fun _ _ => rfl, fun q hq => by rw [rL, if_neg (fun e => hq e.2)]⟩
section TOK
variable {X n x j : Nat} {B : Nat → Nat} {μ ν : Mm}
theorem frs_sh (h : Sh X μ) (f : FrS X μ ν) : Sh X ν := sh_x f.1 f.2.1 h
theorem frs_tp (h : RTp X n B μ) (f : FrS X μ ν) : RTp X n B ν := ⟨by rw [f.2.2.2.2.1 2 (by omega)]; exact h.1, h.2.1, h.2.2.1, fun i hi => by rw [f.2.2.1 _ (by omega)]; exact h.2.2.2 i hi⟩
theorem r_byte {p : Nat} (h : Sh X μ) (ht : RTp X n B μ) (hp : p < n) : f_X11_byteAt (X + 90) (nI p) μ = some (nI (B p)) := by
  obtain ⟨h2, n9, hB, hb⟩ := ht
  unfold f_X11_byteAt
  rw [if_pos (by rw [mk_90 h]), rf_90 h, ob, h2, if_neg (by rw [nI_le_i (by omega) (by omega)]; omega), rp_90_0 h, ob, e_gaB (mk_91 h) (by omega) (by decide), ob, hb p hp, byte_m _ (hB p)]
theorem r_byteO {p : Nat} (h : Sh X μ) (ht : RTp X n B μ) (hp : n ≤ p) (hb : p < 2 ^ 31) : f_X11_byteAt (X + 90) (nI p) μ = some (-1) := by
  have n9 := ht.2.1
  unfold f_X11_byteAt
  rw [if_pos (by rw [mk_90 h]), rf_90 h, ob, ht.1, if_pos (nI_le hp hb)]
theorem r_small {v : Nat} (hv : v < 256) : f_X11_isSmall (nI v) μ = some (nI (isL v).toNat) := by
  have := c_let (μ := μ) hv
  unfold f_X6_isLetter f_X6_isLetter_J16 at this
  unfold f_X11_isSmall f_X11_isSmall_J16
  exact this
theorem r_dig {v : Nat} (hv : v < 256) : f_X11_isDigit (nI v) μ = some (nI (isD v).toNat) := by
  have := c_dig (μ := μ) hv
  unfold f_X6_isDigit f_X6_isDigit_J16 at this
  unfold f_X11_isDigit f_X11_isDigit_J16
  exact this
theorem r_key {len : Nat} (h : Sh X μ) (ht : RTp X n B μ) (hS : ∀ i j, i < 14 → j < 14 → mm_S μ i = mm_S μ j → i = j) (hl : j + len ≤ n) : f_X11_keyAt (X + 90) (nI j) (nI len) μ = some (oI (kwd B j len)) := by
  have n9 := ht.2.1
  -- the word's letters are compared
  have cmp : ∀ i l3 l5, i < 13 → wLn i = len → ∃ r, whl (f_X11_keyAt_L52 (X + 90) (nI j) (nI len) l3 (nI (wOff i)) l5 μ) ((1 : Int32), (0 : Int32)) = some r ∧ r = nI (!anyb (fun k => !(sB (wOff i + k) == nI (B (j + k)))) len).toNat := by
    intro i l3 l5 hi hli
    refine whl_e (body := f_X11_keyAt_L52 (X + 90) (nI j) (nI len) l3 (nI (wOff i)) l5 μ) (len + 1) (fun m (st : Int32 × Int32) => (m ≤ len ∧ st = (nI (!anyb (fun k => !(sB (wOff i + k) == nI (B (j + k)))) m).toNat, nI m)) ∧ (∀ m', m' < m → anyb (fun k => !(sB (wOff i + k) == nI (B (j + k)))) m' = false)) (s0 := ((1 : Int32), (0 : Int32))) ⟨⟨Nat.zero_le _, rfl⟩, fun m' hm' => by omega⟩ ?_ (fun st hst => absurd hst.1.1 (by omega))
    rintro m st hm ⟨⟨m1, rfl⟩, m2⟩
    have hlen6 := w_ln i hi
    by_cases e : m = len
    · right
      refine ⟨nI (!anyb (fun k => !(sB (wOff i + k) == nI (B (j + k)))) m).toNat, ?_, by rw [e]⟩
      simp only [f_X11_keyAt_L52]
      rw [if_pos (by rw [nI_le_i (by omega) (by omega)]; omega)]
    · cases ea : anyb (fun k => !(sB (wOff i + k) == nI (B (j + k)))) m with
      | true =>
        right
        refine ⟨nI 0, ?_, ?_⟩
        · simp only [f_X11_keyAt_L52]
          rw [if_neg (by rw [nI_le_i (by omega) (by omega)]; omega), if_pos (by rfl)]
          rfl
        · have : anyb (fun k => !(sB (wOff i + k) == nI (B (j + k)))) len = true := by
            obtain ⟨q, q1, q2⟩ := anyb_t.mp ea
            exact anyb_t.mpr ⟨q, by omega, q2⟩
          rw [this]; rfl
      | false =>
        left
        refine ⟨(nI (!anyb (fun k => !(sB (wOff i + k) == nI (B (j + k)))) (m + 1)).toNat, nI (m + 1)), ?_, ⟨by omega, rfl⟩, fun m' hm' => ?_⟩
        · simp only [f_X11_keyAt_L52, f_X11_keyAt_J89]
          rw [if_neg (by rw [nI_le_i (by omega) (by omega)]; omega), if_neg (by decide), nI_add, sx_a13 hS (w_lt hi (by omega)), ob, nI_add, r_byte h ht (by omega), ob, ob, nI_1]
          have ean : anyb (fun k => !(sB (wOff i + k) == nI (B (j + k)))) (m + 1) = !(sB (wOff i + m) == nI (B (j + m))) := by
            show (anyb _ m || _) = _
            rw [ea]; rfl
          rw [ean]
          by_cases q : sB (wOff i + m) = nI (B (j + m))
          · rw [if_pos q, q]; simp; rfl
          · have : (sB (wOff i + m) == nI (B (j + m))) = false := by simpa using q
            rw [if_neg q, this]; rfl
        · by_cases q : m' = m
          · rw [q]; exact ea
          · exact m2 m' (by omega)
  have cm0 : ∀ i l3 l5, whl (f_X11_keyAt_L52 (X + 90) (nI j) (nI len) l3 (nI (wOff i)) l5 μ) ((0 : Int32), (0 : Int32)) = some 0 := by
    intro i l3 l5
    refine whl_r ?_
    simp only [f_X11_keyAt_L52]
    by_cases q : nI len ≤ 0
    · rw [if_pos q]
    · rw [if_neg q, if_pos trivial]
  -- one word after another
  have wrd : ∀ i, i < 13 → whl (f_X11_keyAt_L8 (X + 90) (nI j) (nI len) μ) (nI i, nI (wOff i), nI (wOff i)) = if kEq B j len i then some (.inl (nI i)) else whl (f_X11_keyAt_L8 (X + 90) (nI j) (nI len) μ) (nI (i + 1), nI (wOff (i + 1)), nI (wOff (i + 1))) := by
    intro i hi
    have h6 := w_ln i hi
    have run : ∀ k, k ≤ wLn i → whl (f_X11_keyAt_L8 (X + 90) (nI j) (nI len) μ) (nI i, nI (wOff i), nI (wOff i)) = whl (f_X11_keyAt_L8 (X + 90) (nI j) (nI len) μ) (nI i, nI (wOff i), nI (wOff i + k)) := by
      intro k
      induction k with
      | zero => intro _; rfl
      | succ k ih =>
        intro hk
        rw [ih (by omega), whl_l (s' := (nI i, nI (wOff i), nI (wOff i + (k + 1))))]
        have hw := w_lt hi (show k ≤ wLn i by omega)
        simp only [f_X11_keyAt_L8, f_X11_keyAt_J113]
        rw [sx_l13 hS, ob, if_neg (by rw [nI_le_i (by omega) (by omega)]; omega), sx_a13 hS hw, ob, if_neg (w_in i hi k (by omega)), ob, nI_1]
        rfl
    rw [run _ (Nat.le_refl _)]
    have hw := (w_sp i hi).2
    have body : f_X11_keyAt_L8 (X + 90) (nI j) (nI len) μ (nI i, nI (wOff i), nI (wOff i + wLn i)) = if kEq B j len i then some (.inr (.inl (nI i))) else some (.inl (nI (i + 1), nI (wOff (i + 1)), nI (wOff (i + 1)))) := by
      simp only [f_X11_keyAt_L8, f_X11_keyAt_J47, f_X11_keyAt_J97, f_X11_keyAt_J113]
      rw [sx_l13 hS, ob, if_neg (by rw [nI_le_i (by omega) (by omega)]; omega), sx_a13 hS hw, ob, if_pos (w_sp i hi).1, pk_sub (by omega), show wOff i + wLn i - wOff i = wLn i by omega, nI_1, nI_1]
      by_cases e : wLn i = len
      · obtain ⟨r, r1, r2⟩ := cmp i (nI i) (nI (wOff i + wLn i)) hi e
        rw [if_pos (by rw [e]), r1, ob, r2]
        unfold kEq
        rw [show (wLn i == len) = true by simpa using e, Bool.true_and]
        cases anyb (fun k => !(sB (wOff i + k) == nI (B (j + k)))) len with
        | true => rw [if_pos (by rfl), if_neg (by decide)]; rfl
        | false => rw [if_neg (by decide)]; rfl
      · rw [if_neg (by rw [nI_eq_i (by omega) (by omega)]; exact e), cm0, ob, if_pos rfl]
        unfold kEq
        rw [show (wLn i == len) = false by simpa using e, if_neg (by simp)]
        rfl
    cases ek : kEq B j len i with
    | true =>
      rw [ek, if_pos rfl] at body
      rw [whl_r body, if_pos rfl]
    | false =>
      rw [ek, if_neg (by decide)] at body
      rw [whl_l body, if_neg (by decide)]
  have tail : ∀ m i, i + m = 13 → whl (f_X11_keyAt_L8 (X + 90) (nI j) (nI len) μ) (nI i, nI (wOff i), nI (wOff i)) = some (fo (fun i => .inl (nI i)) (.inr ()) (ffr (kEq B j len) i m)) := by
    intro m
    induction m with
    | zero =>
      intro i hi
      have : i = 13 := by omega
      subst this
      refine whl_r ?_
      simp only [f_X11_keyAt_L8]
      rw [sx_l13 hS, ob, w_end, if_pos (nI_le (Nat.le_refl _) (by decide))]
      rfl
    | succ m ih =>
      intro i hi
      rw [wrd i (by omega), ih (i + 1) (by omega)]
      show _ = some (fo _ _ (if kEq B j len i then some i else ffr (kEq B j len) (i + 1) m))
      cases kEq B j len i <;> rfl
  unfold f_X11_keyAt
  have := tail 13 0 rfl
  rw [if_pos (by rw [mk_90 h])]
  replace this : whl (f_X11_keyAt_L8 (X + 90) (nI j) (nI len) μ) ((0 : Int32), (0 : Int32), (0 : Int32)) = some (fo (fun i => .inl (nI i)) (.inr ()) (kwd B j len)) := this
  rw [this, ob]
  cases kwd B j len <;> rfl
theorem l_word {a v : Nat} (ha : a < 2 ^ 40) (h1 : 97 ≤ v) (h2 : v ≤ 122) : (32 : Int64) * lN a + (nI v).toInt64 - 97 + 1 = lN (32 * a + (v - 96)) := by
  rw [nI_i64 (by omega)]
  apply Int64.toBitVec_inj.mp
  show BitVec.ofNat 64 32 * BitVec.ofNat 64 a + BitVec.ofNat 64 v - BitVec.ofNat 64 97 + BitVec.ofNat 64 1 = BitVec.ofNat 64 (32 * a + (v - 96))
  apply BitVec.eq_of_toNat_eq
  simp only [BitVec.toNat_add, BitVec.toNat_sub, BitVec.toNat_mul, BitVec.toNat_ofNat]
  omega
theorem r_small_m : f_X11_isSmall (-1) μ = some 0 := by
  unfold f_X11_isSmall f_X11_isSmall_J16
  rw [if_pos (by decide)]
theorem r_dig_m : f_X11_isDigit (-1) μ = some 0 := by
  unfold f_X11_isDigit f_X11_isDigit_J16
  rw [if_pos (by decide)]
/-- where q fails: at the end, or at a byte -/
theorem r_stop {q : Nat → Bool} {f : Int32 → Mm → Option Int32} (hf : ∀ v, v < 256 → ∀ μ, f (nI v) μ = some (nI (q v).toNat)) (hm : ∀ μ, f (-1) μ = some 0) (h : Sh X μ) (ht : RTp X n B μ) (hx : x ≤ n) : ∃ v, f_X11_byteAt (X + 90) (nI (till q n B x)) μ = some v ∧ f v μ = some 0 := by
  have n9 := ht.2.1
  obtain ⟨t1, t2, t3, t4⟩ := till_p (q := q) (B := B) hx
  by_cases e : n ≤ till q n B x
  · exact ⟨-1, r_byteO h ht e (by omega), hm μ⟩
  · exact ⟨_, r_byte h ht (by omega), by rw [hf _ (ht.2.2.1 _), t4 (by omega)]; rfl⟩
theorem r_skip (h : Sh X μ) (ht : RTp X n B μ) (hxn : x ≤ n) : whl (f_X11_scan_L5 (X + 90) μ) (nI x) = some (nI (till isB n B x)) := by
  have n9 := ht.2.1
  have hB := ht.2.2.1
  obtain ⟨t1, t2, t3, t4⟩ := till_p (q := isB) (B := B) hxn
  refine whl_c (till isB n B x - x) (fun k => nI (x + k)) rfl (fun k hk => ?_) ?_
  · have hb := t3 (x + k) (by omega) (by omega)
    have hv := hB (x + k)
    have d1 : (nI (B (x + k)) = (32 : Int32)) = (B (x + k) = 32) := nI_eq_i (b := 32) (by omega) (by decide)
    have d2 : (nI (B (x + k)) = (10 : Int32)) = (B (x + k) = 10) := nI_eq_i (b := 10) (by omega) (by decide)
    simp only [f_X11_scan_L5, f_X11_scan_J25, r_byte (p := x + k) h ht (by omega), ob, d1, d2, nI_1]
    unfold isB at hb
    by_cases q : B (x + k) = 32
    · rw [if_pos q]; rfl
    · rw [if_neg q, if_pos (by simp at hb; omega)]; rfl
  · show f_X11_scan_L5 (X + 90) μ (nI (x + (till isB n B x - x))) = _
    rw [show x + (till isB n B x - x) = till isB n B x by omega]
    simp only [f_X11_scan_L5, f_X11_scan_J25]
    by_cases e : n ≤ till isB n B x
    · rw [r_byteO h ht e (by omega), ob, if_neg (by decide), ob, if_neg (by decide)]
    · have hb := isB_f (t4 (by omega))
      have hv := hB (till isB n B x)
      have d1 : (nI (B (till isB n B x)) = (32 : Int32)) = (B (till isB n B x) = 32) := nI_eq_i (b := 32) (by omega) (by decide)
      have d2 : (nI (B (till isB n B x)) = (10 : Int32)) = (B (till isB n B x) = 10) := nI_eq_i (b := 10) (by omega) (by decide)
      simp only [r_byte (p := till isB n B x) h ht (by omega), ob, d1, d2]
      rw [if_neg hb.1, if_neg hb.2]
theorem r_digits (h : Sh X μ) (ht : RTp X n B μ) (hj : j < n) (hd : isD (B j) = true) (h7 : mm_I μ (X + 90) 7 = nI (B j - 48)) : ∃ ν, whl (f_X11_scan_L185 (X + 90) (nI j)) (nI (j + 1), μ) = some (nI (till isD n B j), ν) ∧ FrS X μ ν ∧ mm_I ν (X + 90) 7 = nI (dv B j (min (till isD n B j - j) 4)) ∧ ∀ k, k ≠ 7 → mm_I ν (X + 90) k = mm_I μ (X + 90) k := by
  have n9 := ht.2.1
  have hB := ht.2.2.1
  obtain ⟨t1, t2, t3, t4⟩ := till_p (q := isD) (B := B) (Nat.le_of_lt hj)
  have t5 : j + 1 ≤ till isD n B j := by
    by_cases e : till isD n B j = j
    · have := t4 (by omega)
      rw [e, hd] at this; cases this
    · omega
  have key := whl_i (body := f_X11_scan_L185 (X + 90) (nI j)) (till isD n B j - j - 1) (fun k (st : Int32 × Mm) => ∃ ν, st = (nI (j + 1 + k), ν) ∧ FrS X μ ν ∧ mm_I ν (X + 90) 7 = nI (dv B j (min (k + 1) 4)) ∧ ∀ k, k ≠ 7 → mm_I ν (X + 90) k = mm_I μ (X + 90) k) (Q := fun r => ∃ ν, r = (nI (till isD n B j), ν) ∧ FrS X μ ν ∧ mm_I ν (X + 90) 7 = nI (dv B j (min (till isD n B j - j) 4)) ∧ ∀ k, k ≠ 7 → mm_I ν (X + 90) k = mm_I μ (X + 90) k) (s0 := (nI (j + 1), μ)) ⟨μ, rfl, FrS_r _ _, by rw [h7]; congr 1; show _ = 10 * 0 + (B (j + 0) - 48); rw [Nat.add_zero]; omega, fun _ _ => rfl⟩ ?_ ?_
  · obtain ⟨r, k1, ν, rfl, k2⟩ := key
    exact ⟨ν, k1, k2⟩
  · rintro k st hk ⟨ν, rfl, e1, e2, e3⟩
    have hS := frs_sh h e1
    have hT := frs_tp ht e1
    have hb := t3 (j + 1 + k) (by omega) (by omega)
    have hv := hB (j + 1 + k)
    refine ⟨(nI (j + 1 + (k + 1)), ms_I ν (X + 90) 7 (nI (dv B j (min (k + 2) 4)))), ?_, _, rfl, FrS_t e1 (FrS_I (by omega)), by rw [rI, if_pos ⟨rfl, rfl⟩], fun k' hk' => by rw [rI, if_neg (fun q => hk' q.2)]; exact e3 k' hk'⟩
    simp only [f_X11_scan_L185, f_X11_scan_J227, r_byte (p := j + 1 + k) hS hT (by omega), ob, r_dig hv, hb, rf_90 hS, e2, wf_90 hS, nI_1]
    rw [if_neg (by decide), pk_sub (by omega), show j + 1 + k - j = k + 1 by omega]
    by_cases q : 4 ≤ k + 1
    · rw [if_pos (by rw [show (4 : Int32) = nI 4 from rfl, nI_le_i (by omega) (by omega)]; exact q), Nat.min_eq_right (by omega), Nat.min_eq_right (by omega)]
      rfl
    · rw [if_neg (by rw [show (4 : Int32) = nI 4 from rfl, nI_le_i (by omega) (by omega)]; exact q), Nat.min_eq_left (by omega), Nat.min_eq_left (by omega)]
      unfold isD at hb
      simp at hb
      rw [show (10 : Int32) = nI 10 from rfl, pk_mul, nI_add, show (48 : Int32) = nI 48 from rfl, pk_sub (by omega)]
      have : 10 * dv B j (k + 1) + B (j + 1 + k) - 48 = dv B j (k + 2) := by
        show _ = 10 * dv B j (k + 1) + (B (j + (k + 1)) - 48)
        rw [show j + (k + 1) = j + 1 + k by omega]
        omega
      rw [this]
      rfl
  · rintro st ⟨ν, rfl, e1, e2, e3⟩
    have hS := frs_sh h e1
    have hT := frs_tp ht e1
    rw [show till isD n B j - j - 1 + 1 = till isD n B j - j by omega] at e2
    rw [show j + 1 + (till isD n B j - j - 1) = till isD n B j by omega]
    refine ⟨_, ?_, ν, rfl, e1, e2, e3⟩
    obtain ⟨v, v1, v2⟩ := r_stop (f := fun v μ => f_X11_isDigit v μ) (fun v hv μ => r_dig hv) (fun μ => r_dig_m) hS hT (Nat.le_of_lt hj)
    simp only [f_X11_scan_L185]
    rw [v1, ob, show f_X11_isDigit v ν = some 0 from v2, ob, if_pos rfl]
theorem r_words (h : Sh X μ) (ht : RTp X n B μ) (hj : j < n) (h10 : mm_L μ (X + 90) 10 = 0) : ∃ ν, whl (f_X11_scan_L80 (X + 90) (nI j)) (nI j, μ) = some (nI (till isL n B j), ν) ∧ FrS X μ ν ∧ mm_L ν (X + 90) 10 = lN (wv B j (min (till isL n B j - j) 8)) ∧ mm_I ν (X + 90) = mm_I μ (X + 90) := by
  have n9 := ht.2.1
  have hB := ht.2.2.1
  obtain ⟨t1, t2, t3, t4⟩ := till_p (q := isL) (B := B) (Nat.le_of_lt hj)
  have key := whl_i (body := f_X11_scan_L80 (X + 90) (nI j)) (till isL n B j - j) (fun k (st : Int32 × Mm) => ∃ ν, st = (nI (j + k), ν) ∧ FrS X μ ν ∧ mm_L ν (X + 90) 10 = lN (wv B j (min k 8)) ∧ mm_I ν (X + 90) = mm_I μ (X + 90)) (Q := fun r => ∃ ν, r = (nI (till isL n B j), ν) ∧ FrS X μ ν ∧ mm_L ν (X + 90) 10 = lN (wv B j (min (till isL n B j - j) 8)) ∧ mm_I ν (X + 90) = mm_I μ (X + 90)) (s0 := (nI j, μ)) ⟨μ, rfl, FrS_r _ _, h10, rfl⟩ ?_ ?_
  · obtain ⟨r, k1, ν, rfl, k2⟩ := key
    exact ⟨ν, k1, k2⟩
  · rintro k st hk ⟨ν, rfl, e1, e2, e3⟩
    have hS := frs_sh h e1
    have hT := frs_tp ht e1
    have hb := t3 (j + k) (by omega) (by omega)
    have hv := hB (j + k)
    by_cases q : 8 ≤ k
    · refine ⟨(nI (j + (k + 1)), ν), ?_, ν, rfl, e1, by rw [e2, Nat.min_eq_right q, Nat.min_eq_right (by omega)], e3⟩
      simp only [f_X11_scan_L80, f_X11_scan_J124, r_byte (p := j + k) hS hT (by omega), ob, r_small hv, hb, nI_1]
      rw [if_neg (by decide), pk_sub (by omega), show j + k - j = k by omega, if_pos (by rw [show (8 : Int32) = nI 8 from rfl, nI_le_i (by omega) (by omega)]; exact q)]
      rfl
    · refine ⟨(nI (j + (k + 1)), ms_L ν (X + 90) 10 (lN (wv B j (k + 1)))), ?_, _, rfl, FrS_t e1 FrS_L, by rw [rL, if_pos ⟨rfl, rfl⟩, Nat.min_eq_left (by omega)], e3⟩
      have h3 := wv_lt (B := B) (j := j) k (fun i hi => t3 (j + i) (by omega) (by omega))
      have h4 : (32 : Nat) ^ k ≤ 32 ^ 7 := Nat.pow_le_pow_right (by decide) (by omega)
      have h5 : (32 : Nat) ^ 7 = 34359738368 := by decide
      rw [Nat.min_eq_left (by omega)] at e2
      simp only [f_X11_scan_L80, f_X11_scan_J124, r_byte (p := j + k) hS hT (by omega), ob, r_small hv, hb, nI_1, rl_90 hS, wl_90 hS, e2]
      unfold isL at hb
      simp at hb
      rw [if_neg (by decide), pk_sub (by omega), show j + k - j = k by omega, if_neg (by rw [show (8 : Int32) = nI 8 from rfl, nI_le_i (by omega) (by omega)]; exact q), l_word (by omega) hb.1 hb.2]
      rfl
  · rintro st ⟨ν, rfl, e1, e2, e3⟩
    have hS := frs_sh h e1
    have hT := frs_tp ht e1
    rw [show j + (till isL n B j - j) = till isL n B j by omega]
    refine ⟨_, ?_, ν, rfl, e1, e2, e3⟩
    obtain ⟨v, v1, v2⟩ := r_stop (f := fun v μ => f_X11_isSmall v μ) (fun v hv μ => r_small hv) (fun μ => r_small_m) hS hT (Nat.le_of_lt hj)
    simp only [f_X11_scan_L80]
    rw [v1, ob, show f_X11_isSmall v ν = some 0 from v2, ob, if_pos rfl]
def kR (k : Nat) : Nat := if k = 0 then 4 else if k = 4 then 0 else k
theorem frs_S (f : FrS X μ ν) : mm_S ν = mm_S μ := congrArg (fun t => t.2.1) f.2.1
/-- a step of the model's reader -/
theorem r_scan (h : Sh X μ) (ht : RTp X n B μ) (hS : ∀ i j, i < 14 → j < 14 → mm_S μ i = mm_S μ j → i = j) (h6 : mm_I μ (X + 90) 6 = nI x) (hxn : x ≤ n) : ∃ ν, f_X11_scan (X + 90) μ = some ν ∧ FrS X μ ν ∧ mm_I ν (X + 90) 3 = nI (kR (tK n B (till isB n B x))) ∧ mm_I ν (X + 90) 5 = nI (till isB n B x) ∧ mm_I ν (X + 90) 6 = nI (tE n B (till isB n B x)) ∧ (tK n B (till isB n B x) = 1 → mm_I ν (X + 90) 4 = oI (kwd B (till isB n B x) (tE n B (till isB n B x) - till isB n B x)) ∧ mm_L ν (X + 90) 10 = lN (wv B (till isB n B x) (tE n B (till isB n B x) - till isB n B x))) ∧ (tK n B (till isB n B x) ≠ 1 → mm_I ν (X + 90) 4 = -1) ∧ (tK n B (till isB n B x) = 2 → mm_I ν (X + 90) 7 = nI (dv B (till isB n B x) (tE n B (till isB n B x) - till isB n B x))) := by
  obtain ⟨t1, t2, t3, t4⟩ := till_p (q := isB) (B := B) hxn
  have n9 := ht.2.1
  have hB := ht.2.2.1
  unfold f_X11_scan
  rw [if_pos (by rw [mk_90 h]), rf_90 h, ob, h6, r_skip h ht hxn, ob]
  generalize till isB n B x = j at t1 t2 t4 ⊢
  unfold f_X11_scan_J31
  have fr5 : FrS X μ (ms_I μ (X + 90) 5 (nI j)) := FrS_I (by omega)
  have frp : FrS X μ (ms_I (ms_I μ (X + 90) 5 (nI j)) (X + 90) 4 (-1)) := FrS_t fr5 (FrS_I (by omega))
  have p5 : mm_I (ms_I (ms_I μ (X + 90) 5 (nI j)) (X + 90) 4 (-1)) (X + 90) 5 = nI j := by rw [rI, if_neg (by omega), rI, if_pos ⟨rfl, rfl⟩]
  have p4 : mm_I (ms_I (ms_I μ (X + 90) 5 (nI j)) (X + 90) 4 (-1)) (X + 90) 4 = -1 := by rw [rI, if_pos ⟨rfl, rfl⟩]
  have ht5 := frs_tp ht fr5
  have hS5 := frs_sh h fr5
  have hby : f_X11_byteAt (X + 90) (nI j) (ms_I μ (X + 90) 5 (nI j)) = some (if n ≤ j then -1 else nI (B j)) := by
    by_cases e0 : n ≤ j
    · rw [if_pos e0]; exact r_byteO hS5 ht5 e0 (by omega)
    · rw [if_neg e0]; exact r_byte hS5 ht5 (by omega)
  rw [wf_90 h, ob, hby, ob, nI_1, ob, wf_90 hS5, ob]
  generalize ms_I (ms_I μ (X + 90) 5 (nI j)) (X + 90) 4 (-1) = π at frp p5 p4 ⊢
  have hSp := frs_sh h frp
  have hTp := frs_tp ht frp
  by_cases e0 : n ≤ j
  · have ek : tK n B j = 0 := if_pos e0
    have ee : tE n B j = n := if_pos e0
    rw [if_pos e0, if_pos rfl, wf_90 hSp, ob]
    unfold f_X11_scan_J270
    rw [wf_90 (shI' hSp _ _ _), ob, ek, ee]
    refine ⟨_, rfl, FrS_t frp (FrS_t (FrS_I (by omega)) (FrS_I (by omega))), ?_, ?_, ?_, fun q => (by cases q), fun _ => ?_, fun q => (by cases q)⟩
    · rw [rI, if_neg (by omega), rI, if_pos ⟨rfl, rfl⟩]; rfl
    · rw [rI, if_neg (by omega), rI, if_neg (by omega)]; exact p5
    · rw [rI, if_pos ⟨rfl, rfl⟩, show j = n by omega]
    · rw [rI, if_neg (by omega), rI, if_neg (by omega)]; exact p4
  · have hv := hB j
    rw [if_neg e0, if_neg (neg1_ne (by omega)), r_small hv, ob]
    cases el : isL (B j) with
    | true =>
      obtain ⟨l1, l2, l3, l4⟩ := till_p (q := isL) (B := B) (show j ≤ n by omega)
      have ek : tK n B j = if till isL n B j - j ≤ 8 then 1 else 4 := by unfold tK; rw [if_neg e0, el, if_pos rfl]
      have ee : tE n B j = till isL n B j := by unfold tE; rw [if_neg e0, el, if_pos rfl]
      have frl : FrS X π (ms_L π (X + 90) 10 0) := FrS_L
      obtain ⟨ρ, r1, r2, r3, r4⟩ := r_words (frs_sh hSp frl) (frs_tp hTp frl) (show j < n by omega) (by rw [rL, if_pos ⟨rfl, rfl⟩])
      have frr : FrS X μ ρ := FrS_t frp (FrS_t frl r2)
      have hSr := frs_sh h frr
      have r5 : mm_I ρ (X + 90) 5 = nI j := by rw [r4]; exact p5
      have r6 : mm_I ρ (X + 90) 4 = -1 := by rw [r4]; exact p4
      rw [if_neg (by decide), wl_90 hSp, ob, r1, ob, ek, ee]
      unfold f_X11_scan_J130 f_X11_scan_J144 f_X11_scan_J270
      rw [pk_sub l1]
      by_cases q : till isL n B j - j ≤ 8
      · have h3 : mm_I (ms_I ρ (X + 90) 3 1) (X + 90) 3 = 1 := by rw [rI, if_pos ⟨rfl, rfl⟩]
        have fr3 : FrS X μ (ms_I ρ (X + 90) 3 1) := FrS_t frr (FrS_I (by omega))
        have hk := r_key (j := j) (len := till isL n B j - j) (frs_sh h fr3) (frs_tp ht fr3) (fun i j hi hj e => hS i j hi hj (by rw [frs_S fr3] at e; exact e)) (by omega)
        rw [if_pos (by rw [show (8 : Int32) = nI 8 from rfl, nI_le_i (by omega) (by omega)]; exact q), if_pos q, wf_90 hSr, ob, rf_90 (shI' hSr _ _ _), ob, h3, if_pos rfl, hk, ob, wf_90 (shI' hSr _ _ _), ob, wf_90 (shI' (shI' hSr _ _ _) _ _ _), ob]
        rw [Nat.min_eq_left q] at r3
        refine ⟨_, rfl, FrS_t fr3 (FrS_t (FrS_I (by omega)) (FrS_I (by omega))), ?_, ?_, ?_, fun _ => ⟨?_, r3⟩, fun z => absurd rfl z, fun z => (by cases z)⟩
        · rw [rI, if_neg (by omega), rI, if_neg (by omega)]; exact h3
        · rw [rI, if_neg (by omega), rI, if_neg (by omega), rI, if_neg (by omega)]; exact r5
        · rw [rI, if_pos ⟨rfl, rfl⟩]
        · rw [rI, if_neg (by omega), rI, if_pos ⟨rfl, rfl⟩]
      · have h3 : mm_I (ms_I ρ (X + 90) 3 0) (X + 90) 3 = 0 := by rw [rI, if_pos ⟨rfl, rfl⟩]
        rw [if_neg (by rw [show (8 : Int32) = nI 8 from rfl, nI_le_i (by omega) (by omega)]; exact q), if_neg q, wf_90 hSr, ob, rf_90 (shI' hSr _ _ _), ob, h3, if_neg (by decide), wf_90 (shI' hSr _ _ _), ob]
        refine ⟨_, rfl, FrS_t frr (FrS_t (FrS_I (by omega)) (FrS_I (by omega))), ?_, ?_, ?_, fun z => (by cases z), fun z => ?_, fun z => (by cases z)⟩
        · rw [rI, if_neg (by omega)]; exact h3
        · rw [rI, if_neg (by omega), rI, if_neg (by omega)]; exact r5
        · rw [rI, if_pos ⟨rfl, rfl⟩]
        · rw [rI, if_neg (by omega), rI, if_neg (by omega)]; exact r6
    | false =>
      rw [if_pos (show nI false.toNat = 0 from rfl), r_dig hv, ob]
      cases ed : isD (B j) with
      | true =>
        obtain ⟨l1, l2, l3, l4⟩ := till_p (q := isD) (B := B) (show j ≤ n by omega)
        have ek : tK n B j = if till isD n B j - j ≤ 4 then 2 else 4 := by unfold tK; rw [if_neg e0, el, if_neg (by decide), ed, if_pos rfl]
        have ee : tE n B j = till isD n B j := by unfold tE; rw [if_neg e0, el, if_neg (by decide), ed, if_pos rfl]
        have hd48 : 48 ≤ B j := by unfold isD at ed; simp at ed; omega
        have fr7 : FrS X π (ms_I π (X + 90) 7 (nI (B j - 48))) := FrS_I (by omega)
        obtain ⟨ρ, r1, r2, r3, r4⟩ := r_digits (frs_sh hSp fr7) (frs_tp hTp fr7) (show j < n by omega) ed (by rw [rI, if_pos ⟨rfl, rfl⟩])
        have frr : FrS X μ ρ := FrS_t frp (FrS_t fr7 r2)
        have hSr := frs_sh h frr
        have r5 : mm_I ρ (X + 90) 5 = nI j := by rw [r4 5 (by decide), rI, if_neg (by omega)]; exact p5
        have r6 : mm_I ρ (X + 90) 4 = -1 := by rw [r4 4 (by decide), rI, if_neg (by omega)]; exact p4
        rw [if_neg (by decide), show (48 : Int32) = nI 48 from rfl, pk_sub hd48, wf_90 hSp, ob, r1, ob, ek, ee]
        unfold f_X11_scan_J236 f_X11_scan_J249 f_X11_scan_J270
        rw [pk_sub l1, wf_90 hSr, ob, wf_90 (shI' hSr _ _ _), ob, wf_90 hSr, ob, wf_90 (shI' hSr _ _ _), ob]
        have fin : ∀ v : Int32, FrS X μ (ms_I (ms_I ρ (X + 90) 3 v) (X + 90) 6 (nI (till isD n B j))) ∧ mm_I (ms_I (ms_I ρ (X + 90) 3 v) (X + 90) 6 (nI (till isD n B j))) (X + 90) 3 = v ∧ mm_I (ms_I (ms_I ρ (X + 90) 3 v) (X + 90) 6 (nI (till isD n B j))) (X + 90) 5 = nI j ∧ mm_I (ms_I (ms_I ρ (X + 90) 3 v) (X + 90) 6 (nI (till isD n B j))) (X + 90) 6 = nI (till isD n B j) ∧ mm_I (ms_I (ms_I ρ (X + 90) 3 v) (X + 90) 6 (nI (till isD n B j))) (X + 90) 4 = -1 ∧ mm_I (ms_I (ms_I ρ (X + 90) 3 v) (X + 90) 6 (nI (till isD n B j))) (X + 90) 7 = nI (dv B j (min (till isD n B j - j) 4)) := fun v => ⟨FrS_t frr (FrS_t (FrS_I (by omega)) (FrS_I (by omega))), by rw [rI, if_neg (by omega), rI, if_pos ⟨rfl, rfl⟩], by rw [rI, if_neg (by omega), rI, if_neg (by omega)]; exact r5, by rw [rI, if_pos ⟨rfl, rfl⟩], by rw [rI, if_neg (by omega), rI, if_neg (by omega)]; exact r6, by rw [rI, if_neg (by omega), rI, if_neg (by omega)]; exact r3⟩
        by_cases q : till isD n B j - j ≤ 4
        · rw [if_pos (by rw [show (4 : Int32) = nI 4 from rfl, nI_le_i (by omega) (by omega)]; exact q), if_pos q]
          exact ⟨_, rfl, (fin 2).1, (fin 2).2.1, (fin 2).2.2.1, (fin 2).2.2.2.1, fun z => (by cases z), fun _ => (fin 2).2.2.2.2.1, fun _ => by rw [(fin 2).2.2.2.2.2, Nat.min_eq_left q]⟩
        · rw [if_neg (by rw [show (4 : Int32) = nI 4 from rfl, nI_le_i (by omega) (by omega)]; exact q), if_neg q]
          exact ⟨_, rfl, (fin 0).1, (fin 0).2.1, (fin 0).2.2.1, (fin 0).2.2.2.1, fun z => (by cases z), fun _ => (fin 0).2.2.2.2.1, fun z => (by cases z)⟩
      | false =>
        have ek : tK n B j = if B j = 59 then 3 else 4 := by unfold tK; rw [if_neg e0, el, if_neg (by decide), ed, if_neg (by decide)]
        have ee : tE n B j = j + 1 := by unfold tE; rw [if_neg e0, el, if_neg (by decide), ed, if_neg (by decide)]
        have d1 : (nI (B j) = (59 : Int32)) = (B j = 59) := nI_eq_i (b := 59) (by omega) (by decide)
        rw [if_pos (show nI false.toNat = 0 from rfl), ek, ee]
        unfold f_X11_scan_J267 f_X11_scan_J270
        rw [wf_90 hSp, ob, wf_90 (shI' hSp _ _ _), ob, wf_90 hSp, ob, wf_90 (shI' hSp _ _ _), ob]
        simp only [d1]
        have fin : ∀ v : Int32, FrS X μ (ms_I (ms_I π (X + 90) 3 v) (X + 90) 6 (nI (j + 1))) ∧ mm_I (ms_I (ms_I π (X + 90) 3 v) (X + 90) 6 (nI (j + 1))) (X + 90) 3 = v ∧ mm_I (ms_I (ms_I π (X + 90) 3 v) (X + 90) 6 (nI (j + 1))) (X + 90) 5 = nI j ∧ mm_I (ms_I (ms_I π (X + 90) 3 v) (X + 90) 6 (nI (j + 1))) (X + 90) 6 = nI (j + 1) ∧ mm_I (ms_I (ms_I π (X + 90) 3 v) (X + 90) 6 (nI (j + 1))) (X + 90) 4 = -1 := fun v => ⟨FrS_t frp (FrS_t (FrS_I (by omega)) (FrS_I (by omega))), by rw [rI, if_neg (by omega), rI, if_pos ⟨rfl, rfl⟩], by rw [rI, if_neg (by omega), rI, if_neg (by omega)]; exact p5, by rw [rI, if_pos ⟨rfl, rfl⟩], by rw [rI, if_neg (by omega), rI, if_neg (by omega)]; exact p4⟩
        by_cases e9 : B j = 59
        · rw [if_pos e9, if_pos e9]
          exact ⟨_, rfl, (fin 3).1, (fin 3).2.1, (fin 3).2.2.1, (fin 3).2.2.2.1, fun q => (by cases q), fun _ => (fin 3).2.2.2.2, fun q => (by cases q)⟩
        · rw [if_neg e9, if_neg e9]
          exact ⟨_, rfl, (fin 0).1, (fin 0).2.1, (fin 0).2.2.1, (fin 0).2.2.2.1, fun q => (by cases q), fun _ => (fin 0).2.2.2.2, fun q => (by cases q)⟩
end TOK
