/-! ===== tokens: the class's reader of the tape ===== -/
def isB (v : Nat) : Bool := v == 32 || v == 10
theorem isB_f {v : Nat} (h : isB v = false) : v ≠ 32 ∧ v ≠ 10 := by
  unfold isB at h
  simp at h
  exact h
def isL (v : Nat) : Bool := decide (97 ≤ v) && decide (v ≤ 122)
def isD (v : Nat) : Bool := decide (48 ≤ v) && decide (v ≤ 57)
/-- the first place from x on where q fails, or the end -/
def till (q : Nat → Bool) (n : Nat) (B : Nat → Nat) (x : Nat) : Nat := (ffr (fun i => !q (B i)) x (n - x)).getD n
theorem till_p {q : Nat → Bool} {n : Nat} {B : Nat → Nat} {x : Nat} (h : x ≤ n) : x ≤ till q n B x ∧ till q n B x ≤ n ∧ (∀ i, x ≤ i → i < till q n B x → q (B i) = true) ∧ (till q n B x < n → q (B (till q n B x)) = false) := by
  unfold till
  cases e : ffr (fun i => !q (B i)) x (n - x) with
  | none =>
    have h1 := ffr_none.mp e
    refine ⟨h, Nat.le_refl _, fun i g1 g2 => ?_, fun g => absurd g (Nat.lt_irrefl _)⟩
    have g2 : i < n := g2
    have := h1 i g1 (by omega)
    simpa using this
  | some j =>
    obtain ⟨h1, h2, h3, h4⟩ := ffr_some.mp e
    refine ⟨h1, by show j ≤ n; omega, fun i g1 g2 => ?_, fun g => ?_⟩
    · have := h4 i g1 g2
      simpa using this
    · show q (B j) = false
      simpa using h3
def tK (n : Nat) (B : Nat → Nat) (j : Nat) : Nat := if n ≤ j then 0 else if isL (B j) then (if till isL n B j - j ≤ 8 then 1 else 4) else if isD (B j) then (if till isD n B j - j ≤ 4 then 2 else 4) else if B j = 59 then 3 else 4
def tE (n : Nat) (B : Nat → Nat) (j : Nat) : Nat := if n ≤ j then n else if isL (B j) then till isL n B j else if isD (B j) then till isD n B j else j + 1
def dv (B : Nat → Nat) (j : Nat) : Nat → Nat
  | 0 => 0
  | k + 1 => 10 * dv B j k + (B (j + k) - 48)
def wv (B : Nat → Nat) (j : Nat) : Nat → Nat
  | 0 => 0
  | k + 1 => 32 * wv B j k + (B (j + k) - 96)
/-- the class's sums, which may wrap -/
def dvI (B : Nat → Nat) (j : Nat) : Nat → Int32
  | 0 => 0
  | k + 1 => dvI B j k * 10 + nI (B (j + k)) - 48
def wvI (B : Nat → Nat) (j : Nat) : Nat → Int64
  | 0 => 0
  | k + 1 => (wvI B j k <<< ((5 : Int32).toInt64 &&& 63)) ||| ((nI (B (j + k)) - 97 + 1).toInt64)
theorem dv_lt {B : Nat → Nat} {j : Nat} : ∀ k, (∀ i, i < k → isD (B (j + i)) = true) → dv B j k < 10 ^ k := by
  intro k
  induction k with
  | zero => intro _; exact Nat.zero_lt_one
  | succ k ih =>
    intro h
    have h1 := ih (fun i hi => h i (by omega))
    have h2 := h k (by omega)
    unfold isD at h2
    simp at h2
    show 10 * dv B j k + (B (j + k) - 48) < 10 ^ (k + 1)
    rw [Nat.pow_succ]
    omega
theorem wv_lt {B : Nat → Nat} {j : Nat} : ∀ k, (∀ i, i < k → isL (B (j + i)) = true) → wv B j k < 32 ^ k := by
  intro k
  induction k with
  | zero => intro _; exact Nat.zero_lt_one
  | succ k ih =>
    intro h
    have h1 := ih (fun i hi => h i (by omega))
    have h2 := h k (by omega)
    unfold isL at h2
    simp at h2
    show 32 * wv B j k + (B (j + k) - 96) < 32 ^ (k + 1)
    rw [Nat.pow_succ]
    omega
theorem dvI_n {B : Nat → Nat} {j : Nat} : ∀ k, k ≤ 4 → (∀ i, i < k → isD (B (j + i)) = true) → dvI B j k = nI (dv B j k) := by
  intro k
  induction k with
  | zero => intro _ _; rfl
  | succ k ih =>
    intro hk h
    have h2 := h k (by omega)
    unfold isD at h2
    simp at h2
    show dvI B j k * 10 + nI (B (j + k)) - 48 = nI (10 * dv B j k + (B (j + k) - 48))
    rw [ih (by omega) (fun i hi => h i (by omega)), show (10 : Int32) = nI 10 from rfl, show (48 : Int32) = nI 48 from rfl, pk_mul, nI_add, pk_sub (by omega)]
    congr 1
    omega
theorem wvI_n {B : Nat → Nat} {j : Nat} (hB : ∀ i, B i < 256) : ∀ k, k ≤ 8 → (∀ i, i < k → isL (B (j + i)) = true) → wvI B j k = lN (wv B j k) := by
  intro k
  induction k with
  | zero => intro _ _; rfl
  | succ k ih =>
    intro hk h
    have h2 := h k (by omega)
    unfold isL at h2
    simp at h2
    have h3 := wv_lt k (fun i hi => h i (by omega))
    have h4 : (32 : Nat) ^ k ≤ 32 ^ 7 := Nat.pow_le_pow_right (by decide) (by omega)
    have h5 : (32 : Nat) ^ 7 = 34359738368 := by decide
    show (wvI B j k <<< ((5 : Int32).toInt64 &&& 63)) ||| ((nI (B (j + k)) - 97 + 1).toInt64) = lN (32 * wv B j k + (B (j + k) - 96))
    rw [ih (by omega) (fun i hi => h i (by omega)), show (5 : Int32) = nI 5 from rfl, l_shl (by decide) (by omega), show (97 : Int32) = nI 97 from rfl, show (1 : Int32) = nI 1 from rfl, pk_sub (by omega), nI_add, nI_i64 (by omega), lN_or, Nat.or_comm, Nat.mul_comm (wv B j k) (2 ^ 5)]
    congr 1
    rw [Nat.or_comm, ← Nat.two_pow_add_eq_or_of_lt (i := 5) (by omega : B (j + k) - 97 + 1 < 2 ^ 5)]
    omega
def Fr3 (X : Nat) (μ μ' : Mm) : Prop := mm_P μ' = mm_P μ ∧ tl μ' = tl μ ∧ (∀ q, q ≠ X + 3 → mm_I μ' q = mm_I μ q) ∧ ∀ q, q ≠ X + 3 → mm_L μ' q = mm_L μ q
theorem Fr3_r (X : Nat) (μ : Mm) : Fr3 X μ μ := ⟨rfl, rfl, fun _ _ => rfl, fun _ _ => rfl⟩
theorem Fr3_t {X : Nat} {μ μ' μ'' : Mm} (h : Fr3 X μ μ') (h' : Fr3 X μ' μ'') : Fr3 X μ μ'' := ⟨h'.1.trans h.1, h'.2.1.trans h.2.1, fun q hq => (h'.2.2.1 q hq).trans (h.2.2.1 q hq), fun q hq => (h'.2.2.2 q hq).trans (h.2.2.2 q hq)⟩
theorem Fr3_I {X k : Nat} {v : Int32} {μ : Mm} : Fr3 X μ (ms_I μ (X + 3) k v) := ⟨rfl, rfl, fun q hq => by rw [iI, if_neg hq], fun _ _ => rfl⟩
theorem Fr3_L {X k : Nat} {v : Int64} {μ : Mm} : Fr3 X μ (ms_L μ (X + 3) k v) := ⟨rfl, rfl, fun _ _ => rfl, fun q hq => by rw [lL, if_neg hq]⟩
section TOK
variable {X n x j : Nat} {B : Nat → Nat} {μ ν : Mm}
theorem fr_sh (h : Sh X μ) (f : Fr3 X μ ν) : Sh X ν := sh_x f.1 f.2.1 h
theorem fr_cp (h : Cp X n B μ) (f : Fr3 X μ ν) : Cp X n B ν := cp_x (f.2.2.1 _ (by omega)) (f.2.2.1 _ (by omega)) h
theorem e_tapeO {p : Nat} (h : Sh X μ) (hp : Cp X n B μ) (hpn : n ≤ p) (hb : p < 2 ^ 31) : f_X5_at (X + 1) (nI p) μ = some (-1) := by
  obtain ⟨n9, -, h1, h2⟩ := hp
  rw [e_tapeAt (mk_1 h) (mp_1_0 h) (mk_2 h) h1 n9, if_neg (fun q => by have := q.2; rw [nI_toInt hb] at this; omega)]
theorem c_let {v : Nat} (hv : v < 256) : f_X6_isLetter (nI v) μ = some (nI (isL v).toNat) := by
  unfold f_X6_isLetter f_X6_isLetter_J16 isL
  rw [show (97 : Int32) = nI 97 from rfl, show (122 : Int32) = nI 122 from rfl]
  simp only [nI_lt_i (show v < 2 ^ 31 by omega) (show 97 < 2 ^ 31 by decide), nI_lt_i (show 122 < 2 ^ 31 by decide) (show v < 2 ^ 31 by omega)]
  by_cases e1 : v < 97
  · rw [if_pos e1, decide_eq_false (by omega)]; rfl
  · rw [if_neg e1, decide_eq_true (by omega)]
    by_cases e2 : 122 < v
    · rw [if_pos e2, decide_eq_false (by omega)]; rfl
    · rw [if_neg e2, decide_eq_true (by omega)]; rfl
theorem c_dig {v : Nat} (hv : v < 256) : f_X6_isDigit (nI v) μ = some (nI (isD v).toNat) := by
  unfold f_X6_isDigit f_X6_isDigit_J16 isD
  rw [show (48 : Int32) = nI 48 from rfl, show (57 : Int32) = nI 57 from rfl]
  simp only [nI_lt_i (show v < 2 ^ 31 by omega) (show 48 < 2 ^ 31 by decide), nI_lt_i (show 57 < 2 ^ 31 by decide) (show v < 2 ^ 31 by omega)]
  by_cases e1 : v < 48
  · rw [if_pos e1, decide_eq_false (by omega)]; rfl
  · rw [if_neg e1, decide_eq_true (by omega)]
    by_cases e2 : 57 < v
    · rw [if_pos e2, decide_eq_false (by omega)]; rfl
    · rw [if_neg e2, decide_eq_true (by omega)]; rfl
theorem c_skip (h : Sh X μ) (hc : Cp X n B μ) (hx : mm_I μ (X + 3) 1 = nI x) (hxn : x ≤ n) : ∃ ν, f_X6_skipBlanks (X + 3) μ = some ν ∧ Fr3 X μ ν ∧ mm_I ν (X + 3) 1 = nI (till isB n B x) := by
  obtain ⟨t1, t2, t3, t4⟩ := till_p (q := isB) (B := B) hxn
  have n9 := hc.1
  have hB := hc.2.1
  unfold f_X6_skipBlanks
  rw [if_pos (by rw [mk_3 h])]
  have key := whl_i (body := f_X6_skipBlanks_L0 (X + 3)) (till isB n B x - x) (fun k (st : Mm) => Fr3 X μ st ∧ mm_I st (X + 3) 1 = nI (x + k)) (Q := fun ν => Fr3 X μ ν ∧ mm_I ν (X + 3) 1 = nI (till isB n B x)) (s0 := μ) ⟨Fr3_r _ _, hx⟩ ?_ ?_
  · obtain ⟨ν, k1, k2⟩ := key
    exact ⟨ν, by rw [k1, ob], k2⟩
  · rintro k st hk ⟨e1, e2⟩
    have hS := fr_sh h e1
    have hC := fr_cp hc e1
    have hb := t3 (x + k) (by omega) (by omega)
    have hv := hB (x + k)
    refine ⟨ms_I st (X + 3) 1 (nI (x + (k + 1))), ?_, Fr3_t e1 Fr3_I, by rw [rI, if_pos ⟨rfl, rfl⟩]⟩
    have ht := e_tapeC (p := x + k) hS hC (by omega)
    have d1 : (nI (B (x + k)) = (32 : Int32)) = (B (x + k) = 32) := nI_eq_i (b := 32) (by omega) (by decide)
    have d2 : (nI (B (x + k)) = (10 : Int32)) = (B (x + k) = 10) := nI_eq_i (b := 10) (by omega) (by decide)
    simp only [f_X6_skipBlanks_L0, f_X6_skipBlanks_J46, rf_3 hS, ob, e2, rp_3_0 hS, rf_1 hS, hC.2.2.1, ht, nI_1, wf_3 hS, d1, d2]
    rw [if_neg (by rw [nI_le_i (by omega) (by omega)]; omega)]
    unfold isB at hb
    by_cases q : B (x + k) = 32
    · rw [if_pos q]; rfl
    · rw [if_neg q, if_pos (by simp at hb; omega)]; rfl
  · rintro st ⟨e1, e2⟩
    have hS := fr_sh h e1
    have hC := fr_cp hc e1
    rw [show x + (till isB n B x - x) = till isB n B x by omega] at e2
    refine ⟨st, ?_, e1, e2⟩
    simp only [f_X6_skipBlanks_L0, f_X6_skipBlanks_J46]
    rw [rf_3 hS, ob, e2, rp_3_0 hS, ob, rf_1 hS, ob, hC.2.2.1]
    by_cases q : n ≤ till isB n B x
    · rw [if_pos (by rw [nI_le_i (by omega) (by omega)]; exact q)]
    · have hb := isB_f (t4 (by omega))
      have hv := hB (till isB n B x)
      have ht := e_tapeC (p := till isB n B x) hS hC (by omega)
      have d1 : (nI (B (till isB n B x)) = (32 : Int32)) = (B (till isB n B x) = 32) := nI_eq_i (b := 32) (by omega) (by decide)
      have d2 : (nI (B (till isB n B x)) = (10 : Int32)) = (B (till isB n B x) = 10) := nI_eq_i (b := 10) (by omega) (by decide)
      simp only [ob, ht, d1, d2]
      rw [if_neg (by rw [nI_le_i (by omega) (by omega)]; exact q), if_neg hb.1, if_neg hb.2]
theorem c_digits (h : Sh X μ) (hc : Cp X n B μ) (h1 : mm_I μ (X + 3) 1 = nI j) (h3 : mm_I μ (X + 3) 3 = nI j) (hj : j < n) : ∃ ν, f_X6_readDigits (X + 3) μ = some ν ∧ Fr3 X μ ν ∧ mm_I ν (X + 3) 1 = nI (till isD n B j) ∧ mm_I ν (X + 3) 3 = nI j ∧ mm_I ν (X + 3) 2 = nI (if till isD n B j - j ≤ 4 then 2 else 4) ∧ mm_I ν (X + 3) 5 = dvI B j (till isD n B j - j) := by
  obtain ⟨t1, t2, t3, t4⟩ := till_p (q := isD) (B := B) (Nat.le_of_lt hj)
  have n9 := hc.1
  have hB := hc.2.1
  unfold f_X6_readDigits f_X6_readDigits_J75 f_X6_readDigits_J102
  rw [if_pos (by rw [mk_3 h]), wf_3 h, ob]
  have key := whl_i (body := f_X6_readDigits_L5 (X + 3)) (till isD n B j - j) (fun k (st : Mm) => Fr3 X μ st ∧ mm_I st (X + 3) 1 = nI (j + k) ∧ mm_I st (X + 3) 3 = nI j ∧ mm_I st (X + 3) 5 = dvI B j k) (Q := fun ν => Fr3 X μ ν ∧ mm_I ν (X + 3) 1 = nI (till isD n B j) ∧ mm_I ν (X + 3) 3 = nI j ∧ mm_I ν (X + 3) 5 = dvI B j (till isD n B j - j)) (s0 := ms_I μ (X + 3) 5 0) ⟨Fr3_I, by rw [rI, if_neg (by omega)]; exact h1, by rw [rI, if_neg (by omega)]; exact h3, by rw [rI, if_pos ⟨rfl, rfl⟩]; rfl⟩ ?_ ?_
  · obtain ⟨ν, k1, k2, k3, k4, k5⟩ := key
    have hS := fr_sh h k2
    have z4 : mm_I (ms_I ν (X + 3) 4 (nI (till isD n B j - j))) (X + 3) 4 = nI (till isD n B j - j) := by rw [rI, if_pos ⟨rfl, rfl⟩]
    rw [k1, ob, rf_3 hS, ob, rf_3 hS, ob, k3, k4, pk_sub t1, wf_3 hS, ob, rf_3 (shI' hS _ _ _), ob, z4]
    by_cases q : till isD n B j - j ≤ 4
    · rw [if_neg (by rw [show (4 : Int32) = nI 4 from rfl, nI_lt_i (by omega) (by omega)]; omega), wf_3 (shI' hS _ _ _), ob, if_pos q]
      exact ⟨_, rfl, Fr3_t k2 (Fr3_t Fr3_I Fr3_I), by rw [rI, if_neg (by omega), rI, if_neg (by omega)]; exact k3, by rw [rI, if_neg (by omega), rI, if_neg (by omega)]; exact k4, by rw [rI, if_pos ⟨rfl, rfl⟩]; rfl, by rw [rI, if_neg (by omega), rI, if_neg (by omega)]; exact k5⟩
    · rw [if_pos (by rw [show (4 : Int32) = nI 4 from rfl, nI_lt_i (by omega) (by omega)]; omega), wf_3 (shI' hS _ _ _), ob, if_neg q]
      exact ⟨_, rfl, Fr3_t k2 (Fr3_t Fr3_I Fr3_I), by rw [rI, if_neg (by omega), rI, if_neg (by omega)]; exact k3, by rw [rI, if_neg (by omega), rI, if_neg (by omega)]; exact k4, by rw [rI, if_pos ⟨rfl, rfl⟩]; rfl, by rw [rI, if_neg (by omega), rI, if_neg (by omega)]; exact k5⟩
  · rintro k st hk ⟨e1, e2, e3, e4⟩
    have hS := fr_sh h e1
    have hC := fr_cp hc e1
    have hb := t3 (j + k) (by omega) (by omega)
    have hv := hB (j + k)
    refine ⟨ms_I (ms_I st (X + 3) 5 (dvI B j (k + 1))) (X + 3) 1 (nI (j + (k + 1))), ?_, Fr3_t e1 (Fr3_t Fr3_I Fr3_I), by rw [rI, if_pos ⟨rfl, rfl⟩], by rw [rI, if_neg (by omega), rI, if_neg (by omega)]; exact e3, by rw [rI, if_neg (by omega), rI, if_pos ⟨rfl, rfl⟩]⟩
    have ht := e_tapeC (p := j + k) hS hC (by omega)
    have z1 : mm_I (ms_I st (X + 3) 5 (dvI B j k * 10 + nI (B (j + k)) - 48)) (X + 3) 1 = nI (j + k) := by rw [rI, if_neg (by omega)]; exact e2
    simp only [f_X6_readDigits_L5, rf_3 hS, ob, e2, rp_3_0 hS, rf_1 hS, hC.2.2.1, ht, c_dig hv, hb, e4, wf_3 hS, rf_3 (shI' hS _ _ _), wf_3 (shI' hS _ _ _), z1, nI_1]
    rw [if_neg (by rw [nI_le_i (by omega) (by omega)]; omega), if_neg (by decide)]
    rfl
  · rintro st ⟨e1, e2, e3, e4⟩
    have hS := fr_sh h e1
    have hC := fr_cp hc e1
    rw [show j + (till isD n B j - j) = till isD n B j by omega] at e2
    refine ⟨st, ?_, e1, e2, e3, e4⟩
    simp only [f_X6_readDigits_L5]
    rw [rf_3 hS, ob, e2, rp_3_0 hS, ob, rf_1 hS, ob, hC.2.2.1]
    by_cases q : n ≤ till isD n B j
    · rw [if_pos (by rw [nI_le_i (by omega) (by omega)]; exact q)]
    · rw [if_neg (by rw [nI_le_i (by omega) (by omega)]; exact q), ob, ob, e_tapeC hS hC (by omega), ob, c_dig (hB _), ob, t4 (by omega), if_pos (show nI false.toNat = 0 from rfl)]
theorem c_word (h : Sh X μ) (hc : Cp X n B μ) (h1 : mm_I μ (X + 3) 1 = nI j) (h3 : mm_I μ (X + 3) 3 = nI j) (hj : j < n) : ∃ ν, f_X6_readWord (X + 3) μ = some ν ∧ Fr3 X μ ν ∧ mm_I ν (X + 3) 1 = nI (till isL n B j) ∧ mm_I ν (X + 3) 3 = nI j ∧ mm_I ν (X + 3) 2 = nI (if till isL n B j - j ≤ 8 then 1 else 4) ∧ mm_I ν (X + 3) 4 = nI (till isL n B j - j) ∧ mm_L ν (X + 3) 6 = wvI B j (till isL n B j - j) := by
  obtain ⟨t1, t2, t3, t4⟩ := till_p (q := isL) (B := B) (Nat.le_of_lt hj)
  have n9 := hc.1
  have hB := hc.2.1
  unfold f_X6_readWord f_X6_readWord_J77 f_X6_readWord_J105
  rw [if_pos (by rw [mk_3 h]), wl_3 h, ob]
  have key := whl_i (body := f_X6_readWord_L5 (X + 3)) (till isL n B j - j) (fun k (st : Mm) => Fr3 X μ st ∧ mm_I st (X + 3) 1 = nI (j + k) ∧ mm_I st (X + 3) 3 = nI j ∧ mm_L st (X + 3) 6 = wvI B j k) (Q := fun ν => Fr3 X μ ν ∧ mm_I ν (X + 3) 1 = nI (till isL n B j) ∧ mm_I ν (X + 3) 3 = nI j ∧ mm_L ν (X + 3) 6 = wvI B j (till isL n B j - j)) (s0 := ms_L μ (X + 3) 6 0) ⟨Fr3_L, h1, h3, by rw [rL, if_pos ⟨rfl, rfl⟩]; rfl⟩ ?_ ?_
  · obtain ⟨ν, k1, k2, k3, k4, k5⟩ := key
    have hS := fr_sh h k2
    have z4 : mm_I (ms_I ν (X + 3) 4 (nI (till isL n B j - j))) (X + 3) 4 = nI (till isL n B j - j) := by rw [rI, if_pos ⟨rfl, rfl⟩]
    rw [k1, ob, rf_3 hS, ob, rf_3 hS, ob, k3, k4, pk_sub t1, wf_3 hS, ob, rf_3 (shI' hS _ _ _), ob, z4]
    by_cases q : till isL n B j - j ≤ 8
    · rw [if_neg (by rw [show (8 : Int32) = nI 8 from rfl, nI_lt_i (by omega) (by omega)]; omega), wf_3 (shI' hS _ _ _), ob, if_pos q]
      exact ⟨_, rfl, Fr3_t k2 (Fr3_t Fr3_I Fr3_I), by rw [rI, if_neg (by omega), rI, if_neg (by omega)]; exact k3, by rw [rI, if_neg (by omega), rI, if_neg (by omega)]; exact k4, by rw [rI, if_pos ⟨rfl, rfl⟩]; rfl, by rw [rI, if_neg (by omega)]; exact z4, k5⟩
    · rw [if_pos (by rw [show (8 : Int32) = nI 8 from rfl, nI_lt_i (by omega) (by omega)]; omega), wf_3 (shI' hS _ _ _), ob, if_neg q]
      exact ⟨_, rfl, Fr3_t k2 (Fr3_t Fr3_I Fr3_I), by rw [rI, if_neg (by omega), rI, if_neg (by omega)]; exact k3, by rw [rI, if_neg (by omega), rI, if_neg (by omega)]; exact k4, by rw [rI, if_pos ⟨rfl, rfl⟩]; rfl, by rw [rI, if_neg (by omega)]; exact z4, k5⟩
  · rintro k st hk ⟨e1, e2, e3, e4⟩
    have hS := fr_sh h e1
    have hC := fr_cp hc e1
    have hb := t3 (j + k) (by omega) (by omega)
    have hv := hB (j + k)
    refine ⟨ms_I (ms_L st (X + 3) 6 (wvI B j (k + 1))) (X + 3) 1 (nI (j + (k + 1))), ?_, Fr3_t e1 (Fr3_t Fr3_L Fr3_I), by rw [rI, if_pos ⟨rfl, rfl⟩], by rw [rI, if_neg (by omega)]; exact e3, by show mm_L (ms_L _ _ _ _) _ _ = _; rw [rL, if_pos ⟨rfl, rfl⟩]⟩
    have ht := e_tapeC (p := j + k) hS hC (by omega)
    simp only [f_X6_readWord_L5, rf_3 hS, rl_3 hS, ob, e2, rp_3_0 hS, rf_1 hS, hC.2.2.1, ht, c_let hv, hb, e4, wl_3 hS, rf_3 (shL' hS _ _ _), wf_3 (shL' hS _ _ _), iL, nI_1]
    rw [if_neg (by rw [nI_le_i (by omega) (by omega)]; omega), if_neg (by decide)]
    rfl
  · rintro st ⟨e1, e2, e3, e4⟩
    have hS := fr_sh h e1
    have hC := fr_cp hc e1
    rw [show j + (till isL n B j - j) = till isL n B j by omega] at e2
    refine ⟨st, ?_, e1, e2, e3, e4⟩
    simp only [f_X6_readWord_L5]
    rw [rf_3 hS, ob, e2, rp_3_0 hS, ob, rf_1 hS, ob, hC.2.2.1]
    by_cases q : n ≤ till isL n B j
    · rw [if_pos (by rw [nI_le_i (by omega) (by omega)]; exact q)]
    · rw [if_neg (by rw [nI_le_i (by omega) (by omega)]; exact q), ob, ob, e_tapeC hS hC (by omega), ob, c_let (hB _), ob, t4 (by omega), if_pos (show nI false.toNat = 0 from rfl)]
/-- a step of the class's reader -/
theorem c_adv (h : Sh X μ) (hc : Cp X n B μ) (hx : mm_I μ (X + 3) 1 = nI x) (hxn : x ≤ n) : ∃ ν, f_X6_advance (X + 3) μ = some ν ∧ Fr3 X μ ν ∧ mm_I ν (X + 3) 1 = nI (tE n B (till isB n B x)) ∧ mm_I ν (X + 3) 2 = nI (tK n B (till isB n B x)) ∧ mm_I ν (X + 3) 3 = nI (till isB n B x) ∧ (tK n B (till isB n B x) = 1 → mm_I ν (X + 3) 4 = nI (tE n B (till isB n B x) - till isB n B x) ∧ mm_L ν (X + 3) 6 = lN (wv B (till isB n B x) (tE n B (till isB n B x) - till isB n B x))) ∧ (tK n B (till isB n B x) = 2 → mm_I ν (X + 3) 5 = nI (dv B (till isB n B x) (tE n B (till isB n B x) - till isB n B x))) := by
  obtain ⟨t1, t2, t3, t4⟩ := till_p (q := isB) (B := B) hxn
  have n9 := hc.1
  have hB := hc.2.1
  obtain ⟨ν, a1, a2, a3⟩ := c_skip h hc hx hxn
  have hS := fr_sh h a2
  have hC := fr_cp hc a2
  unfold f_X6_advance f_X6_advance_J77
  rw [if_pos (by rw [mk_3 h]), a1, ob, rf_3 hS, ob, a3, wf_3 hS, ob]
  have hF : Fr3 X μ (ms_I ν (X + 3) 3 (nI (till isB n B x))) := Fr3_t a2 Fr3_I
  have p1 : mm_I (ms_I ν (X + 3) 3 (nI (till isB n B x))) (X + 3) 1 = nI (till isB n B x) := by rw [rI, if_neg (by omega)]; exact a3
  have p3 : mm_I (ms_I ν (X + 3) 3 (nI (till isB n B x))) (X + 3) 3 = nI (till isB n B x) := by rw [rI, if_pos ⟨rfl, rfl⟩]
  generalize ms_I ν (X + 3) 3 (nI (till isB n B x)) = π at hF p1 p3 ⊢
  generalize till isB n B x = j at t1 t2 t4 p1 p3 ⊢
  have hS := fr_sh h hF
  have hC := fr_cp hc hF
  rw [rp_3_0 hS, ob, rf_3 hS, ob, p3]
  by_cases e0 : n ≤ j
  · have ek : tK n B j = 0 := if_pos e0
    have ee : tE n B j = n := if_pos e0
    rw [e_tapeO hS hC e0 (by omega), ob, if_pos rfl, wf_3 hS, ob, ek, ee]
    refine ⟨_, rfl, Fr3_t hF Fr3_I, ?_, ?_, ?_, fun q => (by cases q), fun q => (by cases q)⟩
    · rw [rI, if_neg (by omega), p1, show j = n by omega]
    · rw [rI, if_pos ⟨rfl, rfl⟩]; rfl
    · rw [rI, if_neg (by omega)]; exact p3
  · have hv := hB j
    rw [e_tapeC hS hC (by omega), ob, if_neg (neg1_ne (by omega)), c_let hv, ob]
    cases el : isL (B j) with
    | true =>
      obtain ⟨l1, l2, l3, l4⟩ := till_p (q := isL) (B := B) (show j ≤ n by omega)
      have ek : tK n B j = if till isL n B j - j ≤ 8 then 1 else 4 := by unfold tK; rw [if_neg e0, el, if_pos rfl]
      have ee : tE n B j = till isL n B j := by unfold tE; rw [if_neg e0, el, if_pos rfl]
      obtain ⟨ρ, r1, r2, r3, r4, r5, r6, r7⟩ := c_word hS hC p1 p3 (by omega)
      rw [if_neg (by decide), r1, ob, ek, ee]
      refine ⟨ρ, rfl, Fr3_t hF r2, r3, r5, r4, fun q => ⟨r6, ?_⟩, fun q => ?_⟩
      · have : till isL n B j - j ≤ 8 := by
          by_cases z : till isL n B j - j ≤ 8
          · exact z
          · rw [if_neg z] at q; cases q
        rw [r7, wvI_n hB _ this (fun i hi => l3 (j + i) (by omega) (by omega))]
      · split at q <;> cases q
    | false =>
      rw [if_pos (show nI false.toNat = 0 from rfl), c_dig hv, ob]
      cases ed : isD (B j) with
      | true =>
        obtain ⟨l1, l2, l3, l4⟩ := till_p (q := isD) (B := B) (show j ≤ n by omega)
        have ek : tK n B j = if till isD n B j - j ≤ 4 then 2 else 4 := by unfold tK; rw [if_neg e0, el, if_neg (by decide), ed, if_pos rfl]
        have ee : tE n B j = till isD n B j := by unfold tE; rw [if_neg e0, el, if_neg (by decide), ed, if_pos rfl]
        obtain ⟨ρ, r1, r2, r3, r4, r5, r6⟩ := c_digits hS hC p1 p3 (by omega)
        rw [if_neg (by decide), r1, ob, ek, ee]
        refine ⟨ρ, rfl, Fr3_t hF r2, r3, r5, r4, fun q => ?_, fun q => ?_⟩
        · split at q <;> cases q
        · have : till isD n B j - j ≤ 4 := by
            by_cases z : till isD n B j - j ≤ 4
            · exact z
            · rw [if_neg z] at q; cases q
          rw [r6, dvI_n _ this (fun i hi => l3 (j + i) (by omega) (by omega))]
      | false =>
        have ek : tK n B j = if B j = 59 then 3 else 4 := by unfold tK; rw [if_neg e0, el, if_neg (by decide), ed, if_neg (by decide)]
        have ee : tE n B j = j + 1 := by unfold tE; rw [if_neg e0, el, if_neg (by decide), ed, if_neg (by decide)]
        have d1 : (nI (B j) = (59 : Int32)) = (B j = 59) := nI_eq_i (b := 59) (by omega) (by decide)
        have q3 : ∀ v, mm_I (ms_I π (X + 3) 2 v) (X + 3) 3 = nI j := fun v => by rw [rI, if_neg (by omega)]; exact p3
        rw [if_pos (show nI false.toNat = 0 from rfl), wf_3 hS, ob, wf_3 hS, ob, rf_3 (shI' hS _ _ _), ob, rf_3 (shI' hS _ _ _), ob, q3, q3, nI_1, wf_3 (shI' hS _ _ _), ob, wf_3 (shI' hS _ _ _), ob, ek, ee]
        simp only [d1]
        have fin : ∀ v : Nat, Fr3 X μ (ms_I (ms_I π (X + 3) 2 (nI v)) (X + 3) 1 (nI (j + 1))) ∧ mm_I (ms_I (ms_I π (X + 3) 2 (nI v)) (X + 3) 1 (nI (j + 1))) (X + 3) 1 = nI (j + 1) ∧ mm_I (ms_I (ms_I π (X + 3) 2 (nI v)) (X + 3) 1 (nI (j + 1))) (X + 3) 2 = nI v ∧ mm_I (ms_I (ms_I π (X + 3) 2 (nI v)) (X + 3) 1 (nI (j + 1))) (X + 3) 3 = nI j := fun v => ⟨Fr3_t hF (Fr3_t Fr3_I Fr3_I), by rw [rI, if_pos ⟨rfl, rfl⟩], by rw [rI, if_neg (by omega), rI, if_pos ⟨rfl, rfl⟩], by rw [rI, if_neg (by omega)]; exact q3 _⟩
        by_cases e9 : B j = 59
        · rw [if_pos e9, if_pos e9]
          exact ⟨_, rfl, (fin 3).1, (fin 3).2.1, (fin 3).2.2.1, (fin 3).2.2.2, fun q => (by cases q), fun q => (by cases q)⟩
        · rw [if_neg e9, if_neg e9]
          exact ⟨_, rfl, (fin 4).1, (fin 4).2.1, (fin 4).2.2.1, (fin 4).2.2.2, fun q => (by cases q), fun q => (by cases q)⟩
end TOK
