/-! ===== the class's Turnings ===== -/
theorem nb_sh (w p : Nat) : nb w p = (w >>> (4 * p)) % 2 ^ 4 := by rw [Nat.shiftRight_eq_div_pow, p16]; rfl
theorem nb_or (a b p : Nat) : nb (a ||| b) p = nb a p ||| nb b p := by simp only [nb_sh, Nat.shiftRight_or_distrib, Nat.or_mod_two_pow]
theorem nb_and (a b p : Nat) : nb (a &&& b) p = nb a p &&& nb b p := by simp only [nb_sh, Nat.shiftRight_and_distrib, Nat.and_mod_two_pow]
theorem nb_xor (a b p : Nat) : nb (a ^^^ b) p = nb a p ^^^ nb b p := by simp only [nb_sh, Nat.shiftRight_xor_distrib, Nat.xor_mod_two_pow]
theorem nb_one {p q : Nat} (hq : q < 16) (p' : Nat) : nb (q * 16 ^ p) p' = if p' = p then q else 0 := by
  have := nb_add (row := 0) (p := p) (nb_0 p) hq p'
  rw [Nat.zero_add, nb_0] at this
  exact this
theorem nb_full : ∀ p, p < 8 → nb (2 ^ 32 - 1) p = 15 := by decide +kernel
theorem and15 {x : Nat} (h : x < 16) : x &&& 15 = x := by
  have := Nat.and_two_pow_sub_one_eq_mod x 4
  rw [show (15 : Nat) = 2 ^ 4 - 1 from rfl, this]
  exact Nat.mod_eq_of_lt h
theorem m16_8 : (16 : Nat) ^ 8 = 2 ^ 32 := by decide
theorem u1_lt {d : Nat → Nat} {p q : Nat} (h : ∀ p, d p < 16) (hq : q < 16) : ∀ p', u1 d p q p' < 16 := fun p' => by
  unfold u1
  split
  · exact hq
  · exact h p'
theorem e_withDream {w p q : Nat} {μ : Mm} (hw : w < 2 ^ 32) (hp : p < 8) (hq : q < 16) : f_X9_withDream (nI w) (nI p) (nI q) μ = some (nI (dg (u1 (nb w) p q) 8)) := by
  unfold f_X9_withDream
  have hb : (2 : Nat) ^ (4 * p) ≤ 2 ^ 28 := Nat.pow_le_pow_right (by decide) (by omega)
  have h1 : q * 2 ^ (4 * p) < 2 ^ 32 := by
    have : q * 2 ^ (4 * p) ≤ 15 * 2 ^ 28 := Nat.mul_le_mul (by omega) hb
    omega
  have h2 : 15 * 2 ^ (4 * p) < 2 ^ 32 := by
    have : 15 * 2 ^ (4 * p) ≤ 15 * 2 ^ 28 := Nat.mul_le_mul (by omega) hb
    omega
  have e4 : (4 : Int32) * nI p = nI (4 * p) := pk_mul 4 p
  have e15 : (15 : Int32) = nI 15 := rfl
  have em : (-1 : Int32) = nI (2 ^ 32 - 1) := by decide
  have eq : nI q &&& nI 15 = nI q := by rw [nI_and, and15 hq]
  rw [ob, e4, e15, b_shl (by omega) h2, eq, b_shl (by omega) h1, em, nI_xor, nI_and, nI_or, p16]
  congr 2
  apply nb_inj (n := 8)
  · rw [m16_8]
    refine Nat.or_lt_two_pow (Nat.lt_of_le_of_lt Nat.and_le_left hw) ?_
    rw [← p16]; exact h1
  · exact dg_lt (u1_lt (nb_lt w) hq) 8
  · intro p' hp'
    rw [nb_dg (u1_lt (nb_lt w) hq), if_pos hp', nb_or, nb_and, nb_xor, nb_one (by decide), nb_one hq, nb_full p' hp']
    by_cases e : p' = p
    · subst e
      rw [if_pos rfl, if_pos rfl, u1_s, Nat.xor_self, Nat.and_zero, Nat.zero_or]
    · rw [if_neg e, if_neg e, u1_n _ _ e, Nat.zero_xor, and15 (nb_lt _ _), Nat.or_zero]
/-- the class's row of a row r, whose ds are still open -/
def cw (n : Nat) (ds : List Nat) (r : Nat) : Nat := dg (fun p => if n ≤ p ∨ p ∈ ds then 15 else nb r p) 8
theorem cw_d (n : Nat) (ds : List Nat) (r : Nat) : ∀ p, (fun p => if n ≤ p ∨ p ∈ ds then 15 else nb r p) p < 16 := fun p => by
  show (if n ≤ p ∨ p ∈ ds then 15 else nb r p) < 16
  split
  · decide
  · exact nb_lt r p
theorem cw_lt (n : Nat) (ds : List Nat) (r : Nat) : cw n ds r < 2 ^ 32 := by rw [← m16_8]; exact dg_lt (cw_d n ds r) 8
theorem cw_nb (n : Nat) (ds : List Nat) (r p : Nat) (hp : p < 8) : nb (cw n ds r) p = if n ≤ p ∨ p ∈ ds then 15 else nb r p := by
  unfold cw
  rw [nb_dg (cw_d n ds r), if_pos hp]
theorem e_with {n p q r : Nat} {ds : List Nat} {μ : Mm} (hp : p < n) (hn : n ≤ 8) (hq : q < 16) (hd : p ∉ ds) (h0 : nb r p = 0) : f_X9_withDream (nI (cw n (p :: ds) r)) (nI p) (nI q) μ = some (nI (cw n ds (r + q * 16 ^ p))) := by
  rw [e_withDream (cw_lt _ _ _) (by omega) hq]
  congr 2
  apply dg_x
  intro p' hp'
  rw [nb_add h0 hq]
  by_cases e : p' = p
  · subst e
    rw [u1_s, if_neg (fun h => h.elim (fun h => by omega) hd), if_pos rfl]
  · rw [u1_n _ _ e, cw_nb _ _ _ _ hp', if_neg e]
    by_cases h : n ≤ p' ∨ p' ∈ ds
    · rw [if_pos h, if_pos (h.imp id (List.mem_cons_of_mem _))]
    · rw [if_neg h, if_neg (fun h2 => h (h2.imp id (fun h3 => (List.mem_cons.mp h3).resolve_left e)))]
/-- bits counted -/
def pc (u : Nat) : Nat := sg (fun i => (u.testBit i).toNat) 8
def bcx (l0 : Int32) : Int32 :=
  let v9 := (l0 - (((l0.toUInt32 >>> ((1 : Int32).toUInt32 &&& Int32.toUInt32 31)).toInt32) &&& (1431655765 : Int32)))
  let v23 := ((v9 &&& (858993459 : Int32)) + (((v9.toUInt32 >>> ((2 : Int32).toUInt32 &&& Int32.toUInt32 31)).toInt32) &&& (858993459 : Int32)))
  let v33 := ((v23 + ((v23.toUInt32 >>> ((4 : Int32).toUInt32 &&& Int32.toUInt32 31)).toInt32)) &&& (252645135 : Int32))
  let v40 := (v33 + ((v33.toUInt32 >>> ((8 : Int32).toUInt32 &&& Int32.toUInt32 31)).toInt32))
  let v47 := (v40 + ((v40.toUInt32 >>> ((16 : Int32).toUInt32 &&& Int32.toUInt32 31)).toInt32))
  v47 &&& (63 : Int32)
theorem bc_all : ∀ u, u < 256 → bcx (nI u) = nI (pc u) := by decide +kernel
theorem e_bc {u : Nat} {μ : Mm} (h : u < 256) : f_J6_bitCount_0f7a4 (nI u) μ = some (nI (pc u)) := by
  rw [← bc_all u h]; rfl
theorem pc_or : ∀ u, u < 256 → ∀ q, q < 8 → u.testBit q = false → pc (u ||| 2 ^ q) = pc u + 1 := by decide +kernel
theorem pc_le : ∀ u, u < 256 → pc u ≤ 8 := by decide +kernel
/-- within those who dream -/
def suba (T : Tn) (u : Nat) : Bool := !anyb (fun i => u.testBit i && !(decide (i < T 0 0) && !(T 0 7).testBit i)) 8
theorem suba_t {T : Tn} {u : Nat} : suba T u = true ↔ ∀ i, i < 8 → u.testBit i = true → i < T 0 0 ∧ (T 0 7).testBit i = false := by
  unfold suba
  rw [Bool.not_eq_true', anyb_f]
  constructor
  · intro h i hi hu
    have := h i hi
    rw [hu] at this
    simpa using this
  · intro h i hi
    cases hu : u.testBit i with
    | false => rfl
    | true => have := h i hi hu; simp [this]
def wy (T : Tn) (u : Nat) : Nat := if suba T u then cn (okc T) ((drf T 0 (T 0 0)).drop (pc u)) u else 0
theorem cn_le (ok : Nat → Nat → Bool) : ∀ (ds : List Nat) (used : Nat), cn ok ds used ≤ 8 ^ ds.length := by
  intro ds
  induction ds with
  | nil => intro _; exact Nat.le_refl _
  | cons p ds ih =>
    intro used
    have : cn ok (p :: ds) used ≤ sg (fun _ => 8 ^ ds.length) 8 := sg_le (fun q _ => by
      split
      · exact ih _
      · exact Nat.zero_le _)
    refine Nat.le_trans this ?_
    show 0 + 8 ^ ds.length + 8 ^ ds.length + 8 ^ ds.length + 8 ^ ds.length + 8 ^ ds.length + 8 ^ ds.length + 8 ^ ds.length + 8 ^ ds.length ≤ 8 ^ (ds.length + 1)
    rw [Nat.pow_succ]
    omega
theorem drf_len (T : Tn) : ∀ k p, (drf T p k).length ≤ k := by
  intro k
  induction k with
  | zero => intro p; exact Nat.le_refl _
  | succ k ih =>
    intro p
    unfold drf
    split
    · exact Nat.le_succ_of_le (ih _)
    · exact Nat.succ_le_succ (ih _)
theorem cn_b {T : Tn} (ok : OkT T) (k : Nat) (u : Nat) : cn (okc T) ((drf T 0 (T 0 0)).drop k) u ≤ 8 ^ 8 := by
  refine Nat.le_trans (cn_le _ _ _) (Nat.pow_le_pow_right (by decide) ?_)
  rw [List.length_drop]
  have := drf_len T (T 0 0) 0
  have := ok.1.1
  omega
theorem wy_b {T : Tn} (ok : OkT T) (u : Nat) : wy T u < 2 ^ 31 := by
  unfold wy
  split
  · exact Nat.lt_of_le_of_lt (cn_b ok _ _) (by decide)
  · decide
/-- Turnings of a town are prepared -/
def TuP (c : Nat) (T : Tn) (μ : Mm) : Prop := mm_I μ (c + 14) 3 = nI (drf T 0 (T 0 0)).length ∧ (∀ (i : Nat) (h : i < (drf T 0 (T 0 0)).length), mm_I μ (c + 15) i = nI (drf T 0 (T 0 0))[i]) ∧ (∀ p ∈ drf T 0 (T 0 0), mm_I μ (c + 16) p = nI (bm (okc T p) 8)) ∧ (∀ u, u < 256 → mm_I μ (c + 17) u = nI (wy T u))
theorem or_lt8 {u q : Nat} (hu : u < 256) (hq : q < 8) : u ||| 2 ^ q < 256 := Nat.or_lt_two_pow (n := 8) hu (Nat.pow_lt_pow_right (by decide) hq)
theorem suba_or {T : Tn} {u q : Nat} (hu : suba T u = true) (hq : q < T 0 0) (ha : (T 0 7).testBit q = false) : suba T (u ||| 2 ^ q) = true := by
  rw [suba_t] at hu ⊢
  intro i hi h
  rw [tb_or] at h
  by_cases e : q = i
  · subst e; exact ⟨hq, ha⟩
  · refine hu i hi ?_
    revert h
    have : (q == i) = false := by simpa using e
    rw [this, Bool.or_false]
    exact id
/-- whom one may still dream, as the class has it -/
theorem free_b {T : Tn} {p u : Nat} : nI (bm (okc T p) 8) &&& (nI u ^^^ (-1 : Int32)) = nI (bm (fun q => okc T p q && !u.testBit q) 8) := by
  rw [b_andn' (by decide) (bm_lt _ 8)]
  congr 1
  apply bm_x
  intro q hq
  rw [bm_t, decide_eq_true hq]
  rfl
theorem wy_or {T : Tn} (ok : OkT T) {p u q i : Nat} (hp : p < 8) (hu : u < 256) (hq : q < 8) (hs : suba T u = true) (hi : pc u = i) (h : (okc T p q && !u.testBit q) = true) : wy T (u ||| 2 ^ q) = cn (okc T) ((drf T 0 (T 0 0)).drop (i + 1)) (u ||| 2 ^ q) ∧ pc (u ||| 2 ^ q) = i + 1 ∧ suba T (u ||| 2 ^ q) = true := by
  have h1 : okc T p q = true := by revert h; cases okc T p q <;> simp
  have h2 : u.testBit q = false := by revert h; cases u.testBit q <;> simp
  have h3 := okc_lt ok hp h1
  have h4 := pc_or u hu q hq h2
  have h5 := suba_or hs h3.1 h3.2.1
  refine ⟨?_, by omega, h5⟩
  unfold wy
  rw [h5, if_pos rfl, h4, hi]
theorem e_waysOn {c u : Nat} {T : Tn} {μ : Mm} (hc : TwS c (mm_K μ) (mm_P μ)) (ok : OkT T) (h1 : mm_I μ (c + 14) 3 = nI (drf T 0 (T 0 0)).length) (h2 : ∀ (i : Nat) (h : i < (drf T 0 (T 0 0)).length), mm_I μ (c + 15) i = nI (drf T 0 (T 0 0))[i]) (h3 : ∀ p ∈ drf T 0 (T 0 0), mm_I μ (c + 16) p = nI (bm (okc T p) 8)) (h4 : ∀ v, v < 256 → u < v → mm_I μ (c + 17) v = nI (wy T v)) (hu : u < 256) (hs : suba T u = true) : f_X9_waysOn (c + 14) (nI u) μ = some (nI (wy T u)) := by
  have hn := ok.1.1
  have hl := drf_len T (T 0 0) 0
  have hpc := pc_le u hu
  have hw : wy T u = cn (okc T) ((drf T 0 (T 0 0)).drop (pc u)) u := by unfold wy; rw [hs, if_pos rfl]
  unfold f_X9_waysOn
  simp only [tc_tk hc, if_true, e_bc hu, ob, tc_tf hc, h1]
  by_cases e : pc u < (drf T 0 (T 0 0)).length
  · rw [if_pos (by rw [nI_lt_i (by omega) (by omega)]; exact e), tc_tp1 hc, ob, tc_tp0 hc, ob, tc_a15 hc (by omega), ob, h2 _ e]
    have hm : (drf T 0 (T 0 0))[pc u] ∈ drf T 0 (T 0 0) := List.getElem_mem e
    have hp := drf_mem.mp hm
    rw [tc_a16 hc (by omega), ob, h3 _ hm, free_b]
    have hd : (drf T 0 (T 0 0)).drop (pc u) = (drf T 0 (T 0 0))[pc u] :: (drf T 0 (T 0 0)).drop (pc u + 1) := List.drop_eq_getElem_cons e
    rw [hw, hd]
    generalize (drf T 0 (T 0 0))[pc u] = p at hp hm
    refine whl_b 8 (fun i => (nI (sg (fun q => if okc T p q && !u.testBit q then cn (okc T) ((drf T 0 (T 0 0)).drop (pc u + 1)) (u ||| 2 ^ q) else 0) i), nI i)) rfl (fun i hi => ?_) ?_
    · simp only [f_X9_waysOn_L37, f_X9_waysOn_J69, bmb hi (by decide : 8 ≤ 31), nI_b0, nI_1, ob, tc_tp2 hc]
      rw [if_neg (by rw [show (8 : Int32) = nI 8 from rfl, nI_le_i (by omega) (by omega)]; omega)]
      show _ = some (Sum.inl (nI (sg _ i + (if okc T p i && !u.testBit i then cn (okc T) ((drf T 0 (T 0 0)).drop (pc u + 1)) (u ||| 2 ^ i) else 0)), nI (i + 1)))
      by_cases e2 : (okc T p i && !u.testBit i) = true
      · have hwy := wy_or ok (by omega) hu hi hs rfl e2
        have h5 : u.testBit i = false := by revert e2; cases u.testBit i <;> simp
        have hgt : u < u ||| 2 ^ i := by
          have h6 : u ≤ u ||| 2 ^ i := Nat.left_le_or
          have h7 : u ≠ u ||| 2 ^ i := fun h => by rw [h, tb_or] at h5; simp at h5
          omega
        rw [if_neg (by rw [e2]; decide), b_one (by omega), nI_or, tc_a17 hc (or_lt8 hu hi), ob, h4 _ (or_lt8 hu hi) hgt, nI_add, if_pos e2, hwy.1]
      · rw [if_pos (by simpa using e2), if_neg e2]; rfl
    · simp only [f_X9_waysOn_L37]
      rw [if_pos (by decide)]
      rfl
  · rw [if_neg (by rw [nI_lt_i (by omega) (by omega)]; exact e), hw, List.drop_of_length_le (by omega)]
    rfl
