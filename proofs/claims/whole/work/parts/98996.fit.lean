/-! ===== the class's census: what fits ===== -/
section CEN
variable {X i c : Nat} {s : Sv} {μ ν ρ : Mm} {T : Tn} {A : Nat → Nat → Nat}
variable {Rw Ft nr sz fo : Nat} {Ml Ln : Nat → Nat}
/-- how many acts are known at a step -/
def knA (A : Nat → Nat → Nat) (st : Nat) : Nat := (ff (fun k => decide (st < A 0 k)) (A 8 0)).getD (A 8 0)
theorem knA_i (oa : OkA T A) {st k : Nat} (hk : k < A 8 0) : (A 0 k ≤ st) ↔ k < knA A st := by
  unfold knA
  cases e : ff (fun k => decide (st < A 0 k)) (A 8 0) with
  | none =>
    have := ff_none.mp e k hk
    simp at this
    exact ⟨fun _ => hk, fun _ => this⟩
  | some j =>
    obtain ⟨h1, h2, h3⟩ := ff_some.mp e
    simp at h2
    show _ ↔ k < j
    constructor
    · intro h
      by_cases z : k < j
      · exact z
      · have := oa.2.2.1 j k (by omega) hk
        omega
    · intro h
      have := h3 k h
      simpa using this
theorem knA_le {st : Nat} : knA A st ≤ A 8 0 := by
  unfold knA
  cases e : ff (fun k => decide (st < A 0 k)) (A 8 0) with
  | none => exact Nat.le_refl _
  | some j => exact Nat.le_of_lt (ff_some.mp e).1
theorem e_knownAt {st : Nat} (h : Sh X μ) (oa : OkA T A) (ca : Ca X A μ) (hs : st ≤ 999) : f_X0_knownAt (X + 4) (nI st) μ = some (nI (knA A st)) := by
  obtain ⟨⟨c1, c2, c3⟩, c4, c5⟩ := ca
  have o1 := oa.1
  unfold f_X0_knownAt
  rw [if_pos (by rw [mk_4 h])]
  have hst : ∀ k, k < A 8 0 → f_X0_knownAt_L2 (X + 4) (nI st) μ (nI k) = if st < A 0 k then some (.inr (nI k)) else some (.inl (nI (k + 1))) := by
    intro k hk
    have := (oa.2.1 k hk).1
    simp only [f_X0_knownAt_L2]
    rw [rf_4 h, ob, c1, if_neg (by rw [nI_le_i (by omega) (by omega)]; omega), rp_4_0 h, ob, ra_5 h (by omega), ob, (c4 k hk).1, ob, nI_1]
    by_cases z : st < A 0 k
    · rw [if_pos (by rw [nI_lt_i (by omega) (by omega)]; exact z), if_pos z]
    · rw [if_neg (by rw [nI_lt_i (by omega) (by omega)]; exact z), if_neg z]
  refine (whl_fb (A 8 0) (fun k => nI k) (fun k => decide (st < A 0 k)) (fun k => nI k) (b := nI (A 8 0)) rfl (fun k hk hq => ?_) (fun k hk hq => ?_) ?_).trans ?_
  · rw [hst k hk, if_neg (by simpa using hq)]
  · rw [hst k hk, if_pos (by simpa using hq)]
  · simp only [f_X0_knownAt_L2]
    rw [rf_4 h, ob, c1, if_pos (nI_le (Nat.le_refl _) (by omega))]
  · unfold knA
    cases ff (fun k => decide (st < A 0 k)) (A 8 0) <;> rfl
theorem knewA_1 (oa : OkA T A) {k st : Nat} (hk : k < A 8 0) : ∀ m, m ≤ A 8 1 → knewA A k st m ≤ 1 := by
  intro m
  induction m with
  | zero => intro _; exact (oa.2.1 k hk).2.2.2.2
  | succ m ih =>
    intro hm
    show (if A 6 m = k ∧ A 5 m ≤ st then A 7 m else knewA A k st m) ≤ 1
    split
    · exact (oa.2.2.2.1 m (by omega)).2.2
    · exact ih (by omega)
theorem e_knewAt {k st : Nat} (h : Sh X μ) (oa : OkA T A) (ca : Ca X A μ) (hk : k < A 8 0) (hs : st ≤ 999) : f_X0_knewAt (X + 4) (nI k) (nI st) μ = some (nI (knewA A k st (A 8 1))) := by
  obtain ⟨⟨c1, c2, c3⟩, c4, c5⟩ := ca
  have o1 := oa.1
  unfold f_X0_knewAt
  rw [if_pos (by rw [mk_4 h]), if_neg (nI_pos (by omega)), rf_4 h, ob, c1, if_pos (by rw [nI_lt_i (by omega) (by omega)]; exact hk), rp_4_4 h, ob, ra_9 h (by omega), ob, (c4 k hk).2.2.2.2]
  have key := whl_e (body := f_X0_knewAt_L24 (X + 4) (nI k) (nI st) μ) (A 8 1) (fun m (x : Int32 × Int32) => x = (nI (knewA A k st m), nI m)) (Q := fun r => r = nI (knewA A k st (A 8 1))) (s0 := (nI (A 4 k), (0 : Int32))) rfl ?_ ?_
  · obtain ⟨r, k1, k2⟩ := key
    rw [k1, ob, k2]
  · rintro m x hm rfl
    obtain ⟨r1, r2, r3⟩ := oa.2.2.2.1 m hm
    obtain ⟨d1, d2, d3⟩ := c5 m hm
    simp only [f_X0_knewAt_L24, f_X0_knewAt_J63]
    rw [rf_4 h, ob, c2, if_neg (by rw [nI_le_i (by omega) (by omega)]; omega), rp_4_5 h, ob, ra_10 h (by omega), ob, d1]
    by_cases z : st < A 5 m
    · right
      refine ⟨_, by rw [if_pos (by rw [nI_lt_i (by omega) (by omega)]; exact z)], ?_⟩
      congr 1
      have rest : ∀ j, m + j ≤ A 8 1 → knewA A k st (m + j) = knewA A k st m := by
        intro j
        induction j with
        | zero => intro _; rfl
        | succ j ih =>
          intro hj
          show (if A 6 (m + j) = k ∧ A 5 (m + j) ≤ st then A 7 (m + j) else knewA A k st (m + j)) = _
          have := oa.2.2.2.2 m (m + j) (by omega) (by omega)
          rw [if_neg (by omega), ih (by omega)]
      have := rest (A 8 1 - m) (by omega)
      rw [show m + (A 8 1 - m) = A 8 1 by omega] at this
      exact this.symm
    · left
      rw [if_neg (by rw [nI_lt_i (by omega) (by omega)]; exact z), rp_4_6 h, ob, ra_11 h (by omega), ob, d2, rp_4_7 h, ob, ra_12 h (by omega), ob, d3]
      by_cases y : A 6 m = k
      · refine ⟨_, by rw [if_pos (by rw [y]), ob, nI_1], ?_⟩
        show _ = (nI (if A 6 m = k ∧ A 5 m ≤ st then A 7 m else knewA A k st m), _)
        rw [if_pos ⟨y, by omega⟩]
      · refine ⟨_, by rw [if_neg (by rw [nI_eq_i (by omega) (by omega)]; exact y), ob, nI_1], ?_⟩
        show _ = (nI (if A 6 m = k ∧ A 5 m ≤ st then A 7 m else knewA A k st m), _)
        rw [if_neg (fun w => y w.1)]
  · rintro x rfl
    refine ⟨_, ?_, rfl⟩
    simp only [f_X0_knewAt_L24]
    rw [rf_4 h, ob, c2, if_pos (nI_le (Nat.le_refl _) (by omega))]
/-! moments are read -/
theorem us64 : ∀ k, k < 64 → ((nI k).toInt64.toUInt64 &&& Int64.toUInt64 63).toBitVec.toNat = k := by decide +kernel
theorem l_ushr {a k : Nat} (hk : k < 64) (h : a < 2 ^ 64) : (((lN a).toUInt64 >>> ((nI k).toInt64.toUInt64 &&& Int64.toUInt64 63)).toInt64) = lN (a / 2 ^ k) := by
  apply Int64.toBitVec_inj.mp
  show (lN a).toBitVec >>> (((nI k).toInt64.toUInt64 &&& Int64.toUInt64 63).toBitVec % 64) = BitVec.ofNat 64 (a / 2 ^ k)
  apply BitVec.eq_of_toNat_eq
  have e := us64 k hk
  have hd : a / 2 ^ k < 2 ^ 64 := Nat.lt_of_le_of_lt (Nat.div_le_self _ _) h
  show ((lN a).toBitVec >>> (((nI k).toInt64.toUInt64 &&& Int64.toUInt64 63).toBitVec % 64).toNat).toNat = _
  rw [BitVec.toNat_ushiftRight, BitVec.toNat_ofNat, Nat.mod_eq_of_lt hd, BitVec.toNat_umod, e, lN_tn h, Nat.shiftRight_eq_div_pow]
  show a / 2 ^ (k % 64) = _
  rw [Nat.mod_eq_of_lt hk]
theorem e_momIn {a L t p f : Nat} {d : Nat → Nat} (hK : mm_K μ a = (21, L)) (hL : L ≤ 14833) (ht : t < L) (hp : p < 8) (hm : mm_L μ a t = mom T d f) : f_X1_momentIn a (nI t) (nI p) μ = some (nI (momp T d f p)) := by
  unfold f_X1_momentIn
  have g := momp_256 T d f
  have e255 : ∀ n : Nat, n &&& 255 = n % 256 := fun n => Nat.and_two_pow_sub_one_eq_mod n 8
  rw [if_neg (nI_pos (by omega)), e_len hK ⟨by decide, by decide⟩, ob, if_pos (by rw [nI_lt_i (by omega) (by omega)]; exact ht), e_gaL hK ht (by omega), ob, hm, show (8 : Int32) * nI p = nI (8 * p) from pk_mul 8 p]
  unfold mom
  rw [l_ushr (by omega) (mby_lt g 8), lN_i32, show (255 : Int32) = nI 255 from rfl, nI_and, e255, mby_g g hp]
theorem e_line {f : Nat} (h : Sh X μ) (z : Cz X T Rw Ft nr sz fo Ml Ln μ) (hf : f < 12) : f_X1_lineOf (X + 66) (nI f) μ = some (Ml f) := by
  unfold f_X1_lineOf f_X1_lineOf_J19
  rw [if_pos (by rw [mk_66 h]), rp_66_2 h, ob, if_neg (nI_pos (by omega)), if_neg (by rw [show (12 : Int32) = nI 12 from rfl, nI_le_i (by omega) (by omega)]; omega), e_gaP (mk_67 h) hf (by decide) (z.2.1 f hf).1, ob]
/-- the moment of a fact that is found -/
theorem z_mom {f t p : Nat} (z : Cz X T Rw Ft nr sz fo Ml Ln μ) (hf : fo.testBit f = true) (ht : t < (EN T).length) (hp : p < 8) : f_X1_momentIn (Ml f) (nI t) (nI p) μ = some (nI (momp T (dr T t) f p)) := by
  have h12 := cz_12 z hf
  obtain ⟨m1, m2, m3, m4, m5⟩ := z.2.1 f h12
  obtain ⟨q1, q2, q3⟩ := z.2.2.2.2.2.1 f hf
  exact e_momIn m2 m3 (by omega) hp (q3 t ht)
theorem e_isFit {t st : Nat} (h : Sh X μ) (ok : OkT T) (oa : OkA T A) (ca : Ca X A μ) (z : Cz X T Rw Ft nr sz fo Ml Ln μ) (ht : t < (EN T).length) (hfo : ∀ k, k < knA A st → fo.testBit (A 3 k) = true) (hv : ∀ k, k < knA A st → mm_I μ (X + 81) k = nI (knewA A k st (A 8 1))) : f_X1_isFitting (X + 66) (nI t) (nI (knA A st)) μ = some (nI (fits T A st t).toNat) := by
  obtain ⟨⟨c1, c2, c3⟩, c4, c5⟩ := ca
  have o1 := oa.1
  have kl := knA_le (A := A) (st := st)
  have n8 := ok.1.1
  unfold f_X1_isFitting
  rw [if_pos (by rw [mk_66 h])]
  have hbad : ∀ k, k < knA A st → ((!((c_ahd T (dr T t) w7 u0 (A 3 k) (A 1 k) (A 2 k)).toNat == knewA A k st (A 8 1))) = true ↔ ¬ (nI (c_ahd T (dr T t) w7 u0 (A 3 k) (A 1 k) (A 2 k)).toNat = nI (knewA A k st (A 8 1)))) := by
    intro k hk
    have := knewA_1 oa (k := k) (st := st) (by omega) (A 8 1) (Nat.le_refl _)
    rw [nI_eq_i (by have := Bool.toNat_le (c_ahd T (dr T t) w7 u0 (A 3 k) (A 1 k) (A 2 k)); omega) (by omega)]
    simp
  have hst : ∀ k, k < knA A st → f_X1_isFitting_L2 (X + 66) (nI t) (nI (knA A st)) μ (nI k) = if nI (c_ahd T (dr T t) w7 u0 (A 3 k) (A 1 k) (A 2 k)).toNat = nI (knewA A k st (A 8 1)) then some (.inl (nI (k + 1))) else some (.inr (.inl ())) := by
    intro k hk
    obtain ⟨a1, a2, a3, a4, a5⟩ := oa.2.1 k (by omega)
    obtain ⟨e0, e1, e2, e3, e4⟩ := c4 k (by omega)
    have mp := momp_lt T (dr T t) (A 3 k) (A 2 k)
    simp only [f_X1_isFitting_L2, f_X1_isFitting_J65]
    rw [if_neg (by rw [nI_le_i (by omega) (by omega)]; omega), rp_66_4 h, ob, ln_81 h, ob, if_neg (by rw [nI_le_i (by omega) (by omega)]; omega), rp_66_1 h, ob, rp_4_3 h, ob, ra_8 h (by omega), ob, e3, e_line h z (cz_12 z (hfo k hk)), ob, ob, rp_4_2 h, ob, ra_7 h (by omega), ob, e2, z_mom z (hfo k hk) ht (by omega), ob, ob, rp_4_1 h, ob, ra_6 h (by omega), ob, e1, show (2 : Int32) * nI (A 1 k) = nI (2 * A 1 k) from pk_mul 2 (A 1 k)]
    have ma := momp_a (T := T) (d := dr T t) (f := A 3 k) (p := A 2 k) a2
    cases ec : c_ahd T (dr T t) w7 u0 (A 3 k) (A 1 k) (A 2 k) with
    | true =>
      have := ma.mpr ec
      rw [if_neg (by rw [nI_lt_i (by omega) (by omega)]; omega), ob, ra_81 h (by omega), ob, hv k hk, ob, nI_1]
      rfl
    | false =>
      have : ¬ momp T (dr T t) (A 3 k) (A 2 k) ≤ 2 * A 1 k := fun y => by have := ma.mp y; rw [ec] at this; cases this
      rw [if_pos (by rw [nI_lt_i (by omega) (by omega)]; omega), ob, ra_81 h (by omega), ob, hv k hk, ob, nI_1]
      rfl
  refine (whl_fb (knA A st) (fun k => nI k) (fun k => !((c_ahd T (dr T t) w7 u0 (A 3 k) (A 1 k) (A 2 k)).toNat == knewA A k st (A 8 1))) (fun k => .inl ()) (b := .inr ()) rfl (fun k hk hq => ?_) (fun k hk hq => ?_) ?_).trans ?_
  · rw [hst k hk, if_pos]
    cases Classical.em (nI (c_ahd T (dr T t) w7 u0 (A 3 k) (A 1 k) (A 2 k)).toNat = nI (knewA A k st (A 8 1))) with
    | inl y => exact y
    | inr y => rw [(hbad k hk).mpr y] at hq; cases hq
  · rw [hst k hk, if_neg ((hbad k hk).mp hq)]
  · simp only [f_X1_isFitting_L2]
    rw [if_pos (nI_le (Nat.le_refl _) (by omega))]
  · have ef : fits T A st t = !anyb (fun k => !((c_ahd T (dr T t) w7 u0 (A 3 k) (A 1 k) (A 2 k)).toNat == knewA A k st (A 8 1))) (knA A st) := by
      unfold fits fitA
      congr 1
      cases e1 : anyb (fun k => !((c_ahd T (dr T t) w7 u0 (A 3 k) (A 1 k) (A 2 k)).toNat == knewA A k st (A 8 1))) (knA A st) with
      | true =>
        obtain ⟨k, k1, k2⟩ := anyb_t.mp e1
        refine anyb_t.mpr ⟨k, by omega, ?_⟩
        rw [decide_eq_true ((knA_i oa (by omega)).mpr k1), Bool.true_and]
        exact k2
      | false =>
        refine anyb_f.mpr (fun k hk => ?_)
        by_cases y : A 0 k ≤ st
        · rw [anyb_f.mp e1 k ((knA_i oa hk).mp y), Bool.and_false]
        · rw [decide_eq_false y, Bool.false_and]
    rw [ef]
    cases e3 : ff (fun k => !((c_ahd T (dr T t) w7 u0 (A 3 k) (A 1 k) (A 2 k)).toNat == knewA A k st (A 8 1))) (knA A st) with
    | none =>
      rw [anyb_f.mpr (ff_none.mp e3)]; rfl
    | some j =>
      obtain ⟨g1, g2, -⟩ := ff_some.mp e3
      rw [anyb_t.mpr ⟨j, g1, g2⟩]; rfl
end CEN
