/-! ===== longs; the reference's rows of turnings ===== -/
theorem lN_or (a b : Nat) : lN a ||| lN b = lN (a ||| b) := by
  apply Int64.toBitVec_inj.mp
  show BitVec.ofNat 64 a ||| BitVec.ofNat 64 b = BitVec.ofNat 64 (a ||| b)
  exact BitVec.ofNat_or.symm
theorem lN_and (a b : Nat) : lN a &&& lN b = lN (a &&& b) := by
  apply Int64.toBitVec_inj.mp
  show BitVec.ofNat 64 a &&& BitVec.ofNat 64 b = BitVec.ofNat 64 (a &&& b)
  exact BitVec.ofNat_and.symm
theorem lN_xor (a b : Nat) : lN a ^^^ lN b = lN (a ^^^ b) := by
  apply Int64.toBitVec_inj.mp
  show BitVec.ofNat 64 a ^^^ BitVec.ofNat 64 b = BitVec.ofNat 64 (a ^^^ b)
  exact BitVec.ofNat_xor.symm
theorem sl_k : ∀ k, k < 64 → (((nI k).toInt64 &&& 63).toBitVec.smod 64).toNat = k := by decide +kernel
theorem lN_tn {n : Nat} (h : n < 2 ^ 64) : (lN n).toBitVec.toNat = n := Nat.mod_eq_of_lt h
theorem l_shl {n k : Nat} (hk : k < 64) (h : n * 2 ^ k < 2 ^ 64) : lN n <<< ((nI k).toInt64 &&& 63) = lN (n * 2 ^ k) := by
  apply Int64.toBitVec_inj.mp
  apply BitVec.eq_of_toNat_eq
  show ((lN n).toBitVec <<< (((nI k).toInt64 &&& 63).toBitVec.smod 64)).toNat = _
  rw [BitVec.shiftLeft_eq', BitVec.toNat_shiftLeft, sl_k k hk, lN_tn h, Nat.shiftLeft_eq]
  have hn : n < 2 ^ 64 := Nat.lt_of_le_of_lt (Nat.le_mul_of_pos_right n (Nat.two_pow_pos k)) h
  rw [lN_tn hn, Nat.mod_eq_of_lt h]
theorem l_shr {n k : Nat} (hk : k < 64) (h : n < 2 ^ 63) : lN n >>> ((nI k).toInt64 &&& 63) = lN (n / 2 ^ k) := by
  apply Int64.toBitVec_inj.mp
  apply BitVec.eq_of_toNat_eq
  show ((lN n).toBitVec.sshiftRight' (((nI k).toInt64 &&& 63).toBitVec.smod 64)).toNat = _
  have h1 : (lN n).toBitVec.toNat = n := lN_tn (by omega)
  have h2 : (lN n).toBitVec.msb = false := by rw [BitVec.msb_eq_decide, h1]; simp; omega
  have h3 : n / 2 ^ k < 2 ^ 64 := Nat.lt_of_le_of_lt (Nat.div_le_self _ _) (by omega)
  rw [BitVec.toNat_sshiftRight'_of_msb_false h2, sl_k k hk, h1, Nat.shiftRight_eq_div_pow, lN_tn h3]
theorem lN_i32 (n : Nat) : (lN n).toInt32 = nI n := Int64.toInt32_ofNat'
theorem nI_i64 {n : Nat} (h : n < 2 ^ 31) : (nI n).toInt64 = lN n := by
  have h1 := Int64.ofNat_int32ToNatClampNeg (nI n) (by rw [Int32.le_iff_toInt_le, nI_toInt h]; show (0 : Int32).toInt ≤ _; have : (0 : Int32).toInt = 0 := by decide
                                                       omega)
  rw [nI_clamp h] at h1
  exact h1.symm
theorem e_dreamtBy {r p : Nat} {μ : Mm} (hr : r < 2 ^ 63) (hp : p < 16) : f_X11_dreamtBy (lN r) (nI p) μ = some (dI (nb r p)) := by
  unfold f_X11_dreamtBy
  have e4 : (4 : Int32) * nI p = nI (4 * p) := pk_mul 4 p
  have e15 : (15 : Int64) = lN 15 := rfl
  have h1 : r / 2 ^ (4 * p) &&& 15 = nb r p := by
    rw [p16]
    exact Nat.and_two_pow_sub_one_eq_mod _ 4
  rw [e4, l_shr (by omega) hr, e15, lN_and, lN_i32, h1, ob]
  simp only [nI_15 (nb r p) (Nat.mod_lt _ (by decide))]
  unfold dI
  split <;> rfl
theorem rowR_T {T : Tn} (ok : OkT T) {r : Nat} (hr : r < 2 ^ 63) : RowR (lN r) (T 0 0) (dT T r) := by
  intro p hp μ
  rw [e_dreamtBy hr (by have := ok.1.1; omega)]
  unfold dT
  rw [if_pos hp]
/-! whole rows of longs -/
def ms_B (μ : Mm) (a : Nat) (g : Nat → Int64) : Mm := (μ.1, u1 μ.2.1 a g, μ.2.2)
theorem rB (μ : Mm) (a : Nat) (g : Nat → Int64) (b : Nat) : mm_L (ms_B μ a g) b = if b = a then g else mm_L μ b := rfl
theorem iB (μ : Mm) (a : Nat) (g : Nat → Int64) : mm_I (ms_B μ a g) = mm_I μ := rfl
theorem sB_L (μ : Mm) (a k : Nat) (f : Nat → Int64) (v : Int64) : ms_L (ms_B μ a f) a k v = ms_B μ a (u1 f k v) := by
  show (μ.1, u1 (u1 μ.2.1 a f) a (u1 (u1 μ.2.1 a f a) k v), μ.2.2) = (μ.1, u1 μ.2.1 a (u1 f k v), μ.2.2)
  rw [u1_s, u1_u1]
theorem sB_B (μ : Mm) (a : Nat) (f g : Nat → Int64) : ms_B (ms_B μ a f) a g = ms_B μ a g := by
  show (μ.1, u1 (u1 μ.2.1 a f) a g, μ.2.2) = (μ.1, u1 μ.2.1 a g, μ.2.2)
  rw [u1_u1]
theorem sL_B (μ : Mm) (a k : Nat) (v : Int64) : ms_L μ a k v = ms_B μ a (u1 (mm_L μ a) k v) := rfl
theorem sB_id (μ : Mm) (a : Nat) : ms_B μ a (mm_L μ a) = μ := by
  show (μ.1, u1 μ.2.1 a (μ.2.1 a), μ.2.2) = μ
  have h : u1 μ.2.1 a (μ.2.1 a) = μ.2.1 := by
    funext b
    by_cases hb : b = a
    · rw [hb, u1_s]
    · rw [u1_n _ _ hb]
  rw [h]
theorem sI_u (μ : Mm) (a k : Nat) (v w : Int32) : ms_I (ms_I μ a k v) a k w = ms_I μ a k w := by
  rw [sI_A μ a k v, sA_I, u1_u1, sI_A]
def m_rw (X m : Nat) (g : Nat → Int64) (μ : Mm) : Mm := ms_B (ms_I μ (X + 90) 32 (nI m)) (X + 110) g
theorem rw_s {X m : Nat} {g : Nat → Int64} {μ : Mm} (h : Sh X μ) : Sh X (m_rw X m g μ) := h
theorem rw_m {X m o : Nat} {T : Tn} {g : Nat → Int64} {μ : Mm} (hm : MTn (X + 90) o T μ) : MTn (X + 90) o T (m_rw X m g μ) := mtn_x (fun q h1 h2 => by show mm_I (ms_I μ _ _ _) q = _; rw [iI, if_neg (by omega)]) hm
theorem e_isAloneR {X p : Nat} {T : Tn} {μ : Mm} (h : Sh X μ) (hm : MTn (X + 90) 0 T μ) (ok : OkT T) (hp : p < 32) : f_X11_isAlone (X + 90) (nI p) μ = some (nI ((T 0 7).testBit p).toNat) := by
  have h7 : T 0 7 < 2 ^ 31 := Nat.lt_of_lt_of_le ok.1.2.2.2.2.2.2.2.2.1 (Nat.pow_le_pow_right (by decide) (by have := ok.1.1; omega))
  unfold f_X11_isAlone
  simp only [kt_90 h, if_true, rp_90_12 h, mr_n7 h hm, ob, b_bit hp h7, nI_b1]
  cases (T 0 7).testBit p <;> rfl
/-- the rows as the reference makes them -/
def enr (T : Tn) (p k u row : Nat) : List Nat := en (okp T) (drf T p k) u (row + alb T p k)
theorem enr_0 (T : Tn) (p u row : Nat) : enr T p 0 u row = [row] := rfl
theorem enr_a {T : Tn} {p : Nat} (ha : (T 0 7).testBit p = true) (k u row : Nat) : enr T p (k + 1) u row = enr T (p + 1) k u (row + 15 * 16 ^ p) := by
  unfold enr
  have h1 : drf T p (k + 1) = drf T (p + 1) k := by show (if _ then _ else _) = _; rw [ha]; rfl
  have h2 : alb T p (k + 1) = 15 * 16 ^ p + alb T (p + 1) k := by show (if _ then _ else _) + _ = _; rw [ha]; rfl
  rw [h1, h2, Nat.add_assoc]
theorem enr_d {T : Tn} {p : Nat} (ha : (T 0 7).testBit p = false) (k u row : Nat) : enr T p (k + 1) u row = cat (fun q => if okp T p q && !u.testBit q then enr T (p + 1) k (u ||| 2 ^ q) (row + q * 16 ^ p) else []) 8 := by
  unfold enr
  have h1 : drf T p (k + 1) = p :: drf T (p + 1) k := by show (if _ then _ else _) = _; rw [ha]; rfl
  have h2 : alb T p (k + 1) = alb T (p + 1) k := by show (if _ then _ else _) + _ = _; rw [ha]; simp
  rw [h1, h2]
  show cat _ 8 = cat _ 8
  apply cat_x
  intro q _
  split
  · congr 1; omega
  · rfl
theorem cat_w {α : Type} {g : Nat → List α} {m n : Nat} (h : m ≤ n) (hg : ∀ q, m ≤ q → q < n → g q = []) : cat g n = cat g m := by
  induction n with
  | zero => rw [Nat.le_zero.mp h]
  | succ n ih =>
    by_cases e : m = n + 1
    · rw [e]
    · show cat g n ++ g n = _
      rw [ih (by omega) (fun q h1 h2 => hg q h1 (by omega)), hg n (by omega) (by omega), List.append_nil]
theorem or_add {a b k : Nat} (h : a < 2 ^ k) : a ||| b * 2 ^ k = a + b * 2 ^ k := by
  have := Nat.two_pow_add_eq_or_of_lt h b
  rw [Nat.or_comm, Nat.mul_comm b, ← this, Nat.add_comm]
theorem row_or {row q p : Nat} (hr : row < 16 ^ p) (hq : q < 16) (hp : p < 8) : lN row ||| ((nI q).toInt64 <<< (((4 : Int32) * nI p).toInt64 &&& 63)) = lN (row + q * 16 ^ p) := by
  have e4 : (4 : Int32) * nI p = nI (4 * p) := pk_mul 4 p
  have hb : (2 : Nat) ^ (4 * p) ≤ 2 ^ 28 := Nat.pow_le_pow_right (by decide) (by omega)
  have h1 : q * 2 ^ (4 * p) < 2 ^ 64 := by
    have : q * 2 ^ (4 * p) ≤ 15 * 2 ^ 28 := Nat.mul_le_mul (by omega) hb
    omega
  rw [e4, nI_i64 (by omega), l_shl (by omega) h1, lN_or, or_add (by rw [p16]; exact hr), p16]
theorem row_lt {row q p : Nat} (hr : row < 16 ^ p) (hq : q < 16) : row + q * 16 ^ p < 16 ^ (p + 1) := by
  have : q * 16 ^ p ≤ 15 * 16 ^ p := Nat.mul_le_mul_right _ (by omega)
  rw [Nat.pow_succ]
  omega
theorem makeT_step {X p u row q : Nat} {T : Tn} {ν : Mm} (self : Nat → Int32 → Int32 → Int64 → Mm → Option Mm) (h : Sh X ν) (hm : MTn (X + 90) 0 T ν) (ok : OkT T) (hp : p < 8) (hu : u < 256) (hq : q < T 0 0) (hr : row < 16 ^ p) :
    f_X11_makeTurnings_L60 self (X + 90) (nI p) (nI u) (lN row) (nI q, ν) = if okp T p q && !u.testBit q then (self (X + 90) (nI (p + 1)) (nI (u ||| 2 ^ q)) (lN (row + q * 16 ^ p)) ν).bind (fun x => some (.inl (nI (q + 1), x))) else some (.inl (nI (q + 1), ν)) := by
  have hn := ok.1.1
  have h1p := (ok.2.1 p hp).1
  simp only [f_X11_makeTurnings_L60, f_X11_makeTurnings_J117, f_X11_makeTurnings_J121, f_X11_makeTurnings_J122, f_X11_makeTurnings_J151, rp_90_12 h, rp_90_14 h, mr_n0 h hm, mr_94 h hm hp, e_isAloneR h hm ok (by omega : q < 32), ob, nI_1, nI_b0, b_bit (by omega : q < 32) (by omega : u < 2 ^ 31), row_or hr (by omega : q < 16) hp, b_one (by omega : q < 32), nI_or, if_true]
  rw [if_neg (by rw [nI_le_i (by omega) (by omega)]; omega)]
  have hone : ((1 : Int32) = 0) = False := by decide
  simp only [hone, if_false]
  unfold okp
  rw [decide_eq_true hq, Bool.true_and]
  by_cases e1 : q = p
  · rw [if_pos (by rw [e1])]
    have : (q == p) = true := by simpa using e1
    rw [this]; rfl
  · have e1' : (q == p) = false := by simpa using e1
    rw [if_neg (by rw [nI_eq_i (by omega) (by omega)]; exact e1), e1']
    cases ea : (T 0 7).testBit q with
    | true => rw [if_neg (by decide)]; rfl
    | false =>
      rw [if_pos rfl]
      cases eu : u.testBit q with
      | true => rw [if_neg (by decide), Bool.not_true, Bool.and_false]; rfl
      | false =>
        rw [if_pos rfl]
        by_cases e2 : T 1 p = 0
        · rw [e2, if_pos (show nI 0 = 0 from rfl)]; rfl
        · rw [if_neg (by rw [nI_z (by omega)]; exact e2)]
          have e2' : (T 1 p == 0) = false := by simpa using e2
          rw [e2']
          by_cases e3 : T 1 p = q + 1
          · rw [if_pos (by rw [e3]), e3]; simp
          · have e3' : (T 1 p == q + 1) = false := by simpa using e3
            rw [if_neg (by rw [nI_eq_i (by omega) (by omega)]; exact e3), e3']; rfl
theorem makeT_run {X : Nat} {T : Tn} {μ : Mm} (h : Sh X μ) (hm : MTn (X + 90) 0 T μ) (ok : OkT T) : ∀ (k fuel p u row m : Nat) (g : Nat → Int64), k < fuel → p + k = T 0 0 → u < 256 → row < 16 ^ p → m + (enr T p k u row).length ≤ 14833 →
    f_X11_makeTurnings fuel (X + 90) (nI p) (nI u) (lN row) (m_rw X m g μ) = some (m_rw X (m + (enr T p k u row).length) (pl g m ((enr T p k u row).map lN)) μ) := by
  have hn := ok.1.1
  intro k
  induction k with
  | zero =>
    intro fuel p u row m g hf hpk hu hr hlen
    have hlen : m + 1 ≤ 14833 := hlen
    have hS := rw_s (m := m) (g := g) h
    have hM := rw_m (m := m) (g := g) hm
    cases fuel with
    | zero => exact absurd hf (Nat.not_lt_zero _)
    | succ fuel =>
      show f_X11_makeTurnings_B _ _ _ _ _ _ = _
      unfold f_X11_makeTurnings_B
      have r32 : mm_I (m_rw X m g μ) (X + 90) 32 = nI m := by show mm_I (ms_I μ _ _ _) _ _ = _; rw [rI, if_pos ⟨rfl, rfl⟩]
      have hS2 : Sh X (ms_L (m_rw X m g μ) (X + 110) m (lN row)) := h
      have r33 : mm_I (ms_L (m_rw X m g μ) (X + 110) m (lN row)) (X + 90) 32 = nI m := r32
      rw [if_pos (by rw [mk_90 hS]), rp_90_12 hS, ob, mr_n0 hS hM, ob, if_pos (by rw [show p = T 0 0 by omega]), rp_90_34 hS, ob, rf_90 hS, ob, r32, wa_110 hS _ (by omega), ob, rf_90 hS2, ob, r33, nI_1, wf_90 hS2, ob]
      congr 1
      show ms_I (ms_L (ms_B (ms_I μ (X + 90) 32 (nI m)) (X + 110) g) (X + 110) m (lN row)) (X + 90) 32 (nI (m + 1)) = ms_B (ms_I μ (X + 90) 32 (nI (m + 1))) (X + 110) (pl g m [lN row])
      rw [sB_L, pl_one]
      show ms_B (ms_I (ms_I μ (X + 90) 32 (nI m)) (X + 90) 32 (nI (m + 1))) (X + 110) _ = _
      rw [sI_u]
  | succ k ih =>
    intro fuel p u row m g hf hpk hu hr hlen
    have hS := rw_s (m := m) (g := g) h
    have hM := rw_m (m := m) (g := g) hm
    cases fuel with
    | zero => exact absurd hf (Nat.not_lt_zero _)
    | succ fuel =>
      show f_X11_makeTurnings_B _ _ _ _ _ _ = _
      unfold f_X11_makeTurnings_B
      rw [if_pos (by rw [mk_90 hS]), rp_90_12 hS, ob, mr_n0 hS hM, ob, if_neg (by rw [nI_eq_i (by omega) (by omega)]; omega), e_isAloneR hS hM ok (by omega), ob]
      simp only [nI_b0]
      cases ha : (T 0 7).testBit p with
      | true =>
        rw [if_neg (by decide), nI_1]
        have e15 := row_or (q := 15) hr (by decide) (by omega : p < 8)
        rw [nI_i64 (by decide)] at e15
        have e16 : (15 : Int64) = lN 15 := rfl
        rw [e16, e15, enr_a ha] at *
        rw [ih fuel (p + 1) u (row + 15 * 16 ^ p) m g (by omega) (by omega) hu (row_lt hr (by decide)) hlen, ob]
      | false =>
        rw [if_pos rfl]
        rw [enr_d ha] at hlen ⊢
        have hw : cat (fun q => if okp T p q && !u.testBit q then enr T (p + 1) k (u ||| 2 ^ q) (row + q * 16 ^ p) else []) 8 = cat (fun q => if okp T p q && !u.testBit q then enr T (p + 1) k (u ||| 2 ^ q) (row + q * 16 ^ p) else []) (T 0 0) := cat_w hn (fun q h1 h2 => by
          have : okp T p q = false := by unfold okp; rw [decide_eq_false (by omega)]; rfl
          rw [this]; rfl)
        rw [hw] at hlen ⊢
        refine (whl_b (T 0 0) (fun q => (nI q, m_rw X (m + (cat (fun q => if okp T p q && !u.testBit q then enr T (p + 1) k (u ||| 2 ^ q) (row + q * 16 ^ p) else []) q).length) (pl g m ((cat (fun q => if okp T p q && !u.testBit q then enr T (p + 1) k (u ||| 2 ^ q) (row + q * 16 ^ p) else []) q).map lN)) μ)) ?_ (fun q hq => ?_) ?_)
        · show _ = (_, m_rw X m (pl g m []) μ)
          rw [pl_nil]; rfl
        · have hle : (cat (fun q => if okp T p q && !u.testBit q then enr T (p + 1) k (u ||| 2 ^ q) (row + q * 16 ^ p) else []) (q + 1)).length ≤ (cat (fun q => if okp T p q && !u.testBit q then enr T (p + 1) k (u ||| 2 ^ q) (row + q * 16 ^ p) else []) (T 0 0)).length := by
            rw [cat_len, cat_len]; exact sg_mono _ (by omega)
          have hsx : cat (fun q => if okp T p q && !u.testBit q then enr T (p + 1) k (u ||| 2 ^ q) (row + q * 16 ^ p) else []) (q + 1) = cat (fun q => if okp T p q && !u.testBit q then enr T (p + 1) k (u ||| 2 ^ q) (row + q * 16 ^ p) else []) q ++ (if okp T p q && !u.testBit q then enr T (p + 1) k (u ||| 2 ^ q) (row + q * 16 ^ p) else []) := rfl
          simp only [hsx]
          rw [hsx] at hle
          generalize cat (fun q => if okp T p q && !u.testBit q then enr T (p + 1) k (u ||| 2 ^ q) (row + q * 16 ^ p) else []) q = cx at hle
          rw [makeT_step _ (rw_s h) (rw_m hm) ok (by omega) hu hq hr]
          by_cases e : (okp T p q && !u.testBit q) = true
          · rw [if_pos e] at hle ⊢
            rw [if_pos e, ih fuel (p + 1) (u ||| 2 ^ q) (row + q * 16 ^ p) _ _ (by omega) (by omega) (or_lt8 hu (by omega)) (row_lt hr (by omega)) (by rw [List.length_append] at hle; omega), ob]
            have := pl_app g m (cx.map lN) ((enr T (p + 1) k (u ||| 2 ^ q) (row + q * 16 ^ p)).map lN)
            rw [List.length_map] at this
            rw [this, List.map_append, List.length_append, Nat.add_assoc]
          · rw [if_neg e, if_neg e, List.append_nil]
        · simp only [f_X11_makeTurnings_L60, rp_90_12 (rw_s h), mr_n0 (rw_s h) (rw_m hm), ob]
          rw [if_pos (nI_le (Nat.le_refl _) (by omega))]
theorem enr_EN {T : Tn} (ok : OkT T) : enr T 0 (T 0 0) 0 0 = EN T := by
  unfold enr
  rw [Nat.zero_add, EN_p ok]
/-- canAll, over the draft -/
theorem mr1_n0 {X : Nat} {T : Tn} {μ : Mm} (h : Shp X (mm_K μ) (mm_P μ)) (hm : MTn (X + 90) 1 T μ) : ga_I (X + 92) (11 : Int32) μ = some (nI (T 0 0)) := (ra_92 (i := 11) h (by decide)).trans (congrArg some (hm.1 0 (by decide)))
theorem mr1_n7 {X : Nat} {T : Tn} {μ : Mm} (h : Shp X (mm_K μ) (mm_P μ)) (hm : MTn (X + 90) 1 T μ) : ga_I (X + 92) (18 : Int32) μ = some (nI (T 0 7)) := (ra_92 (i := 18) h (by decide)).trans (congrArg some (hm.1 7 (by decide)))
theorem mr1_94 {X : Nat} {T : Tn} {μ : Mm} (h : Shp X (mm_K μ) (mm_P μ)) (hm : MTn (X + 90) 1 T μ) {i : Nat} (hi : i < 8) : ga_I (X + 94) ((8 : Int32) + nI i) μ = some (nI (T 1 i)) := by
  rw [show (8 : Int32) = nI 8 from rfl, nI_add, ra_94 h (by omega)]
  exact congrArg some (hm.2.1 i hi)
theorem e_aloneD {X p : Nat} {T : Tn} {μ : Mm} (h : Sh X μ) (hm : MTn (X + 90) 1 T μ) (h7 : T 0 7 < 2 ^ 31) (hp : p < 32) : f_X11_isAloneInDraft (X + 90) (nI p) μ = some (nI ((T 0 7).testBit p).toNat) := by
  unfold f_X11_isAloneInDraft
  simp only [kt_90 h, if_true, rp_90_12 h, mr1_n7 h hm, ob, b_bit hp h7, nI_b1]
  cases (T 0 7).testBit p <;> rfl
theorem sg_pos {g : Nat → Nat} : ∀ {m : Nat}, 0 < sg g m ↔ ∃ q, q < m ∧ 0 < g q := by
  intro m
  induction m with
  | zero => exact ⟨fun h => absurd h (Nat.lt_irrefl _), fun ⟨q, h, _⟩ => by omega⟩
  | succ m ih =>
    show 0 < sg g m + g m ↔ _
    constructor
    · intro h
      by_cases e : 0 < g m
      · exact ⟨m, by omega, e⟩
      · obtain ⟨q, h1, h2⟩ := ih.mp (by omega)
        exact ⟨q, by omega, h2⟩
    · rintro ⟨q, h1, h2⟩
      by_cases e : q = m
      · subst e; omega
      · have := ih.mpr ⟨q, by omega, h2⟩
        omega
theorem e_canAll {X : Nat} {T : Tn} {μ : Mm} (h : Sh X μ) (hm : MTn (X + 90) 1 T μ) (ok : OkT T) : ∀ (k fuel p u : Nat), k < fuel → p + k = T 0 0 → u < 256 →
    f_X11_canAll fuel (X + 90) (nI p) (nI u) μ = some (nI (decide (0 < cn (okp T) (drf T p k) u)).toNat) := by
  have hn := ok.1.1
  have h7 : T 0 7 < 2 ^ 31 := Nat.lt_of_lt_of_le ok.1.2.2.2.2.2.2.2.2.1 (Nat.pow_le_pow_right (by decide) (by omega))
  intro k
  induction k with
  | zero =>
    intro fuel p u hf hpk hu
    cases fuel with
    | zero => exact absurd hf (Nat.not_lt_zero _)
    | succ fuel =>
      show f_X11_canAll_B _ _ _ _ _ = _
      unfold f_X11_canAll_B
      rw [if_pos (by rw [mk_90 h]), rp_90_12 h, ob, mr1_n0 h hm, ob, if_pos (by rw [show p = T 0 0 by omega])]
      rfl
  | succ k ih =>
    intro fuel p u hf hpk hu
    cases fuel with
    | zero => exact absurd hf (Nat.not_lt_zero _)
    | succ fuel =>
      show f_X11_canAll_B _ _ _ _ _ = _
      unfold f_X11_canAll_B
      rw [if_pos (by rw [mk_90 h]), rp_90_12 h, ob, mr1_n0 h hm, ob, if_neg (by rw [nI_eq_i (by omega) (by omega)]; omega), e_aloneD h hm h7 (by omega), ob]
      simp only [nI_b0]
      have hdd : drf T p (k + 1) = if (T 0 7).testBit p then drf T (p + 1) k else p :: drf T (p + 1) k := rfl
      rw [hdd]
      cases ha : (T 0 7).testBit p with
      | true =>
        rw [if_neg (by decide), if_pos rfl, nI_1, ih fuel (p + 1) u (by omega) (by omega) hu, ob, if_pos (by cases decide (0 < cn (okp T) (drf T (p + 1) k) u) <;> decide)]
      | false =>
        rw [if_pos rfl, if_neg (by decide)]
        have h1p := (ok.2.1 p (by omega)).1
        have hst : ∀ q, q < T 0 0 → f_X11_canAll_L32 (f_X11_canAll fuel) (X + 90) (nI p) (nI u) μ (nI q) = if (okp T p q && !u.testBit q) && decide (0 < cn (okp T) (drf T (p + 1) k) (u ||| 2 ^ q)) then some (.inr (.inl ())) else some (.inl (nI (q + 1))) := by
          intro q hq
          simp only [f_X11_canAll_L32, f_X11_canAll_J91, f_X11_canAll_J95, f_X11_canAll_J96, f_X11_canAll_J120, rp_90_12 h, rp_90_14 h, mr1_n0 h hm, mr1_94 h hm (by omega : p < 8), e_aloneD h hm h7 (by omega : q < 32), ob, nI_1, nI_b0, b_bit (by omega : q < 32) (by omega : u < 2 ^ 31), b_one (by omega : q < 32), nI_or, if_true, ih fuel (p + 1) (u ||| 2 ^ q) (by omega) (by omega) (or_lt8 hu (by omega))]
          rw [if_neg (by rw [nI_le_i (by omega) (by omega)]; omega)]
          have hone : ((1 : Int32) = 0) = False := by decide
          simp only [hone, if_false]
          unfold okp
          rw [decide_eq_true hq, Bool.true_and]
          generalize decide (0 < cn _ (drf T (p + 1) k) (u ||| 2 ^ q)) = z
          by_cases e1 : q = p
          · rw [if_pos (by rw [e1])]
            have : (q == p) = true := by simpa using e1
            rw [this]; rfl
          · have e1' : (q == p) = false := by simpa using e1
            rw [if_neg (by rw [nI_eq_i (by omega) (by omega)]; exact e1), e1']
            cases ea : (T 0 7).testBit q with
            | true => rw [if_neg (by decide)]; rfl
            | false =>
              rw [if_pos rfl]
              cases eu : u.testBit q with
              | true => rw [if_neg (by decide), Bool.not_true, Bool.and_false]; rfl
              | false =>
                rw [if_pos rfl]
                by_cases e2 : T 1 p = 0
                · rw [e2, if_pos (show nI 0 = 0 from rfl)]; cases z <;> rfl
                · rw [if_neg (by rw [nI_z (by omega)]; exact e2)]
                  have e2' : (T 1 p == 0) = false := by simpa using e2
                  rw [e2']
                  by_cases e3 : T 1 p = q + 1
                  · rw [if_pos (by rw [e3]), e3]; simp; cases z <;> rfl
                  · have e3' : (T 1 p == q + 1) = false := by simpa using e3
                    rw [if_neg (by rw [nI_eq_i (by omega) (by omega)]; exact e3), e3']; rfl
        refine (whl_fb (T 0 0) (fun i => nI i) (fun q => (okp T p q && !u.testBit q) && decide (0 < cn (okp T) (drf T (p + 1) k) (u ||| 2 ^ q))) (fun _ => .inl ()) (b := .inr ()) rfl (fun i hi hp => ?_) (fun i hi hp => ?_) ?_).trans ?_
        · rw [hst i hi, hp]; rfl
        · rw [hst i hi, hp]; rfl
        · simp only [f_X11_canAll_L32, rp_90_12 h, mr1_n0 h hm, ob]
          rw [if_pos (nI_le (Nat.le_refl _) (by omega))]
        · have hcn : cn (okp T) (p :: drf T (p + 1) k) u = sg (fun q => if okp T p q && !u.testBit q then cn (okp T) (drf T (p + 1) k) (u ||| 2 ^ q) else 0) 8 := rfl
          cases e : ff (fun q => (okp T p q && !u.testBit q) && decide (0 < cn (okp T) (drf T (p + 1) k) (u ||| 2 ^ q))) (T 0 0) with
          | none =>
            have hz := ff_none.mp e
            have : ¬ 0 < cn (okp T) (p :: drf T (p + 1) k) u := by
              rw [hcn, sg_pos]
              rintro ⟨q, h1, h2⟩
              by_cases e2 : (okp T p q && !u.testBit q) = true
              · rw [if_pos e2] at h2
                have hq : q < T 0 0 := by
                  by_cases h3 : q < T 0 0
                  · exact h3
                  · have : okp T p q = false := by unfold okp; rw [decide_eq_false h3]; rfl
                    rw [this] at e2; cases e2
                have := hz q hq
                rw [e2, decide_eq_true h2] at this
                cases this
              · rw [if_neg e2] at h2; omega
            rw [decide_eq_false this]; rfl
          | some j =>
            obtain ⟨h1, h2, -⟩ := ff_some.mp e
            have e2 : (okp T p j && !u.testBit j) = true := by revert h2; cases (okp T p j && !u.testBit j) <;> simp
            have e3 : 0 < cn (okp T) (drf T (p + 1) k) (u ||| 2 ^ j) := by rw [e2] at h2; simpa using h2
            have : 0 < cn (okp T) (p :: drf T (p + 1) k) u := by
              rw [hcn, sg_pos]
              exact ⟨j, by omega, by rw [if_pos e2]; exact e3⟩
            rw [decide_eq_true this]; rfl
theorem canAll_EN {T : Tn} (ok : OkT T) : cn (okp T) (drf T 0 (T 0 0)) 0 = (EN T).length := by
  rw [← EN_p ok, en_len]
