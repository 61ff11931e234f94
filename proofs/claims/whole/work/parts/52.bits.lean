/-! ===== sets as numbers ===== -/
def bm (b : Nat → Bool) : Nat → Nat
  | 0 => 0
  | n + 1 => bm b n ||| (if b n then 2 ^ n else 0)
theorem bm_t (b : Nat → Bool) (n i : Nat) : (bm b n).testBit i = (decide (i < n) && b i) := by
  induction n with
  | zero => show (0 : Nat).testBit i = _; rw [Nat.zero_testBit]; simp
  | succ n ih =>
    show (bm b n ||| (if b n then 2 ^ n else 0)).testBit i = _
    rw [Nat.testBit_or, ih]
    by_cases h : i = n
    · subst h
      by_cases hb : b i
      · rw [if_pos hb, Nat.testBit_two_pow_self]; simp [hb]
      · rw [if_neg hb, Nat.zero_testBit]; simp [hb]
    · have e : (if b n then 2 ^ n else 0).testBit i = false := by
        by_cases hb : b n
        · rw [if_pos hb, Nat.testBit_two_pow]; simp; omega
        · rw [if_neg hb, Nat.zero_testBit]
      rw [e, Bool.or_false]
      have : decide (i < n) = decide (i < n + 1) := by
        by_cases h2 : i < n
        · rw [decide_eq_true h2, decide_eq_true (by omega)]
        · rw [decide_eq_false h2, decide_eq_false (by omega)]
      rw [this]
theorem bm_lt (b : Nat → Bool) (n : Nat) : bm b n < 2 ^ n := by
  apply Nat.lt_pow_two_of_testBit
  intro i hi
  rw [bm_t, decide_eq_false (by omega)]
  rfl
theorem bm_of {x n : Nat} {b : Nat → Bool} (hx : x < 2 ^ n) (h : ∀ i, i < n → x.testBit i = b i) : x = bm b n := by
  apply Nat.eq_of_testBit_eq
  intro i
  rw [bm_t]
  by_cases hi : i < n
  · rw [decide_eq_true hi, h i hi]; rfl
  · rw [decide_eq_false hi, Nat.testBit_lt_two_pow (Nat.lt_of_lt_of_le hx (Nat.pow_le_pow_right (by decide) (by omega)))]; rfl
theorem bm_x {n : Nat} {b c : Nat → Bool} (h : ∀ i, i < n → b i = c i) : bm b n = bm c n := bm_of (bm_lt b n) (fun i hi => by rw [bm_t, decide_eq_true hi, h i hi]; rfl)
theorem bm_i {n : Nat} {b c : Nat → Bool} (h : bm b n = bm c n) : ∀ i, i < n → b i = c i := fun i hi => by
  have h1 := bm_t b n i
  rw [h, bm_t, decide_eq_true hi, Bool.true_and, Bool.true_and] at h1
  exact h1.symm
theorem bm_or (b c : Nat → Bool) (n : Nat) : bm b n ||| bm c n = bm (fun i => b i || c i) n := by
  apply bm_of (Nat.or_lt_two_pow (bm_lt b n) (bm_lt c n))
  intro i hi
  rw [Nat.testBit_or, bm_t, bm_t, decide_eq_true hi]
  rfl
theorem bm_and (b c : Nat → Bool) (n : Nat) : bm b n &&& bm c n = bm (fun i => b i && c i) n := by
  apply bm_of (Nat.and_lt_two_pow _ (bm_lt c n))
  intro i hi
  rw [Nat.testBit_and, bm_t, bm_t, decide_eq_true hi]
  rfl
theorem bm_1 {k n : Nat} (h : k < n) : 2 ^ k = bm (fun i => i == k) n := by
  apply bm_of (Nat.pow_lt_pow_right (by decide) h)
  intro i hi
  rw [Nat.testBit_two_pow]
  by_cases e : k = i
  · simp [e]
  · simp [e]; omega
theorem bm_0 {n : Nat} : 0 = bm (fun _ => false) n := bm_of (Nat.two_pow_pos n) (fun i _ => Nat.zero_testBit i)
theorem bm_set (b : Nat → Bool) {k n : Nat} (h : k < n) : bm b n ||| 2 ^ k = bm (fun i => b i || i == k) n := by
  rw [bm_1 h, bm_or]
theorem bm_all (n : Nat) : 2 ^ n - 1 = bm (fun _ => true) n := bm_of (by have := Nat.two_pow_pos n; omega) (fun i hi => by rw [Nat.testBit_two_pow_sub_one, decide_eq_true hi])
theorem bm_z (b : Nat → Bool) (n : Nat) : (bm b n = 0) = (∀ i, i < n → b i = false) := by
  apply propext
  constructor
  · intro h i hi
    rw [bm_0 (n := n)] at h
    exact bm_i h i hi
  · intro h
    rw [bm_0 (n := n)]
    exact bm_x h
theorem bm_w {m n : Nat} {b : Nat → Bool} (h : m ≤ n) (hb : ∀ i, m ≤ i → i < n → b i = false) : bm b m = bm b n := by
  apply bm_of (Nat.lt_of_lt_of_le (bm_lt b m) (Nat.pow_le_pow_right (by decide) h))
  intro i hi
  rw [bm_t]
  by_cases h2 : i < m
  · rw [decide_eq_true h2]; rfl
  · rw [decide_eq_false h2, hb i (by omega) hi]; rfl
/-! Int32 -/
theorem nI_and (a b : Nat) : nI a &&& nI b = nI (a &&& b) := by
  apply Int32.toBitVec_inj.mp
  show BitVec.ofNat 32 a &&& BitVec.ofNat 32 b = BitVec.ofNat 32 (a &&& b)
  exact BitVec.ofNat_and.symm
theorem nI_or (a b : Nat) : nI a ||| nI b = nI (a ||| b) := by
  apply Int32.toBitVec_inj.mp
  show BitVec.ofNat 32 a ||| BitVec.ofNat 32 b = BitVec.ofNat 32 (a ||| b)
  exact BitVec.ofNat_or.symm
theorem nI_xor (a b : Nat) : nI a ^^^ nI b = nI (a ^^^ b) := by
  apply Int32.toBitVec_inj.mp
  show BitVec.ofNat 32 a ^^^ BitVec.ofNat 32 b = BitVec.ofNat 32 (a ^^^ b)
  exact BitVec.ofNat_xor.symm
theorem sh_k {k : Nat} (h : k < 32) : nI k &&& 31 = nI k := by
  have := pk_andN (n := k) (m := 31) (by omega) 5 (by decide)
  rw [this, Nat.mod_eq_of_lt h]
theorem sm_k : ∀ k, k < 32 → ((nI k).toBitVec.smod 32).toNat = k := by decide +kernel
theorem us_k : ∀ k, k < 32 → (((nI k).toUInt32 &&& Int32.toUInt32 31).toBitVec % 32).toNat = k := by decide +kernel
theorem b_shl {n k : Nat} (hk : k < 32) (h : n * 2 ^ k < 2 ^ 32) : nI n <<< (nI k &&& 31) = nI (n * 2 ^ k) := by
  rw [sh_k hk]
  exact pk_shlN _ k (sm_k k hk) h
theorem b_one {k : Nat} (hk : k < 32) : (1 : Int32) <<< (nI k &&& 31) = nI (2 ^ k) := by
  have h : (1 : Nat) * 2 ^ k < 2 ^ 32 := by rw [Nat.one_mul]; exact Nat.pow_lt_pow_right (by decide) hk
  have := b_shl hk h
  rw [Nat.one_mul] at this
  exact this
theorem b_shr {n k : Nat} (hk : k < 32) (h : n < 2 ^ 31) : nI n >>> (nI k &&& 31) = nI (n / 2 ^ k) := by
  rw [sh_k hk]
  exact pk_shrN h _ k (sm_k k hk)
theorem b_ushr {n k : Nat} (hk : k < 32) (h : n < 2 ^ 32) : ((nI n).toUInt32 >>> ((nI k).toUInt32 &&& Int32.toUInt32 31)).toInt32 = nI (n / 2 ^ k) := pk_ushrN h _ k (us_k k hk)
theorem b_bit {n k : Nat} (hk : k < 32) (h : n < 2 ^ 31) : (nI n >>> (nI k &&& 31)) &&& 1 = nI (n.testBit k).toNat := by
  rw [b_shr hk h]
  have h1 : n / 2 ^ k < 2 ^ 32 := Nat.lt_of_le_of_lt (Nat.div_le_self _ _) (by omega)
  have := pk_andN (m := 1) h1 1 (by decide)
  rw [this, Nat.testBit_eq_decide_div_mod_eq]
  congr 1
  have := Nat.mod_two_eq_zero_or_one (n / 2 ^ k)
  show n / 2 ^ k % 2 = _
  rcases this with h | h <;> rw [h] <;> rfl
theorem nI_b0 (b : Bool) : (nI b.toNat = 0) = (b = false) := by cases b <;> decide
theorem nI_b1 (b : Bool) : (nI b.toNat = 1) = (b = true) := by cases b <;> decide
theorem nI_z {n : Nat} (h : n < 2 ^ 31) : (nI n = 0) = (n = 0) := nI_eq_i h (by decide)
/-- a without b -/
theorem b_andn {n : Nat} (a b : Nat → Bool) (hn : n ≤ 31) : nI (bm a n) &&& (nI (bm b n) ^^^ (-1 : Int32)) = nI (bm (fun i => a i && !b i) n) := by
  have e : (-1 : Int32) = nI (2 ^ 32 - 1) := by decide
  rw [e, nI_xor, nI_and]
  congr 1
  apply bm_of
  · exact Nat.lt_of_le_of_lt Nat.and_le_left (bm_lt a n)
  · intro i hi
    rw [Nat.testBit_and, Nat.testBit_xor, bm_t, bm_t, Nat.testBit_two_pow_sub_one, decide_eq_true hi, decide_eq_true (by omega : i < 32)]
    simp
/-- the same of any small numbers -/
theorem b_andn' {a b n : Nat} (hn : n ≤ 31) (ha : a < 2 ^ n) : nI a &&& (nI b ^^^ (-1 : Int32)) = nI (bm (fun i => a.testBit i && !b.testBit i) n) := by
  have e : (-1 : Int32) = nI (2 ^ 32 - 1) := by decide
  rw [e, nI_xor, nI_and]
  congr 1
  apply bm_of
  · exact Nat.lt_of_le_of_lt Nat.and_le_left ha
  · intro i hi
    rw [Nat.testBit_and, Nat.testBit_xor, Nat.testBit_two_pow_sub_one, decide_eq_true (by omega : i < 32)]
    simp
theorem p2_lt {k n : Nat} (h : k < n) (hn : n ≤ 31 := by omega) : 2 ^ k < 2 ^ 31 := Nat.pow_lt_pow_right (by decide) (by omega)
theorem bm_31 (b : Nat → Bool) {n : Nat} (hn : n ≤ 31) : bm b n < 2 ^ 31 := Nat.lt_of_lt_of_le (bm_lt b n) (Nat.pow_le_pow_right (by decide) hn)
theorem bmb {b : Nat → Bool} {n k : Nat} (hk : k < n) (hn : n ≤ 31) : (nI (bm b n) >>> (nI k &&& 31)) &&& 1 = nI (b k).toNat := by
  rw [b_bit (by omega) (bm_31 b hn), bm_t, decide_eq_true hk]
  rfl
/-! memory: reading behind writing -/
theorem rI (μ : Mm) (a k : Nat) (v : Int32) (b j : Nat) : mm_I (ms_I μ a k v) b j = if b = a ∧ j = k then v else mm_I μ b j := by
  rw [iI]
  by_cases h : b = a
  · subst h
    rw [if_pos rfl]
    by_cases h2 : j = k
    · subst h2; rw [u1_s, if_pos ⟨rfl, rfl⟩]
    · rw [u1_n _ _ h2, if_neg (fun h => h2 h.2)]
  · rw [if_neg h, if_neg (fun q => h q.1)]
theorem rL (μ : Mm) (a k : Nat) (v : Int64) (b j : Nat) : mm_L (ms_L μ a k v) b j = if b = a ∧ j = k then v else mm_L μ b j := by
  rw [lL]
  by_cases h : b = a
  · subst h
    rw [if_pos rfl]
    by_cases h2 : j = k
    · subst h2; rw [u1_s, if_pos ⟨rfl, rfl⟩]
    · rw [u1_n _ _ h2, if_neg (fun h => h2 h.2)]
  · rw [if_neg h, if_neg (fun q => h q.1)]
theorem rP (μ : Mm) (a k : Nat) (v : Option Nat) (b j : Nat) : mm_P (ms_P μ a k v) b j = if b = a ∧ j = k then v else mm_P μ b j := by
  rw [pP]
  by_cases h : b = a
  · subst h
    rw [if_pos rfl]
    by_cases h2 : j = k
    · subst h2; rw [u1_s, if_pos ⟨rfl, rfl⟩]
    · rw [u1_n _ _ h2, if_neg (fun h => h2 h.2)]
  · rw [if_neg h, if_neg (fun q => h q.1)]
theorem rA (μ : Mm) (a : Nat) (f : Nat → Int32) (b : Nat) : mm_I (ms_A μ a f) b = if b = a then f else mm_I μ b := rfl
