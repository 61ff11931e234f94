/-! ===== the model's census: what fits, as bits ===== -/
theorem l_bit {n k : Nat} (hk : k < 64) : (lN n >>> ((nI k).toInt64 &&& 63)) &&& (1 : Int64) = lN (n.testBit k).toNat := by
  apply Int64.toBitVec_inj.mp
  show ((lN n).toBitVec.sshiftRight' (((nI k).toInt64 &&& 63).toBitVec.smod 64)) &&& 1#64 = BitVec.ofNat 64 (n.testBit k).toNat
  rw [BitVec.sshiftRight', sl_k k hk]
  apply BitVec.eq_of_getLsbD_eq
  intro i hi
  have e1 : (1#64).getLsbD i = decide (i = 0) := by
    rw [BitVec.getLsbD_one]
    simp
  rw [BitVec.getLsbD_and, BitVec.getLsbD_sshiftRight, e1, BitVec.getLsbD_ofNat]
  by_cases z : i = 0
  · subst z
    have : (lN n).toBitVec.getLsbD k = n.testBit k := by
      show (BitVec.ofNat 64 n).getLsbD k = _
      rw [BitVec.getLsbD_ofNat, decide_eq_true hk, Bool.true_and]
    rw [Nat.add_zero, if_pos hk, this]
    cases n.testBit k <;> rfl
  · rw [decide_eq_false z, Bool.and_false]
    have : (n.testBit k).toNat.testBit i = false := by
      apply Nat.testBit_lt_two_pow
      have h1 := Bool.toNat_le (n.testBit k)
      have h2 : (2 : Nat) ^ 1 ≤ 2 ^ i := Nat.pow_le_pow_right (by decide) (by omega)
      omega
    rw [this, Bool.and_false]
section FIT
variable {X : Nat} {s : Sv} {μ ν π ρ : Mm}
/-- the bits of those below k that fit -/
def BF (X : Nat) (F : Nat → Bool) (k : Nat) (μ : Mm) : Prop := ∀ j, j < 232 → mm_L μ (X + 124) j = lN (bm (fun i => decide (64 * j + i < k) && F (64 * j + i)) 64)
theorem r_isFit {F : Nat → Bool} {k n : Nat} (h : Sh X μ) (hb : BF X F n μ) (hk : k < n) (hn : n ≤ 14833) : f_X11_isFitting (X + 90) (nI k) μ = some (nI (F k).toNat) := by
  unfold f_X11_isFitting
  rw [if_pos (by rw [mk_90 h]), rp_90_57 h, ob, show (64 : Int32) = nI 64 from rfl, pk_div (by omega) (by decide) (by decide), ra_124 h (by omega), ob, hb _ (by omega), pk_mul, pk_sub (by omega), show k - k / 64 * 64 = k % 64 by omega, l_bit (by omega), bm_t, decide_eq_true (show k % 64 < 64 by omega), Bool.true_and, show 64 * (k / 64) + k % 64 = k by omega, decide_eq_true hk, Bool.true_and]
  cases F k with
  | true => rw [if_pos ((lg_cmp_eq (lN true.toNat) 1).mpr rfl)]; rfl
  | false => rw [if_neg (fun z => by have := (lg_cmp_eq _ _).mp z; exact absurd this (by decide))]; rfl
theorem FrK_B {f : Nat → Int64} : FrK X μ (ms_B μ (X + 124) f) := ⟨rfl, rfl, fun q h => by rw [rB, if_neg h], fun _ _ _ _ _ => rfl, fun _ _ => rfl⟩
theorem FrK_L {j : Nat} {v : Int64} : FrK X μ (ms_L μ (X + 124) j v) := ⟨rfl, rfl, fun q h => by rw [lL, if_neg h], fun _ _ _ _ _ => rfl, fun _ _ => rfl⟩
theorem r_find {st : Nat} (h : IR X s μ) (ok : OkT s.1) (oa : OkA s.1 s.2.2.2.2.2.1) (hs : st ≤ 999) : ∃ π, f_X11_findFits (X + 90) (nI st) μ = some (nI (cntb (fits s.1 s.2.2.2.2.2.1 st) (EN s.1).length), π) ∧ FrK X μ π ∧ BF X (fits s.1 s.2.2.2.2.2.1 st) (EN s.1).length π := by
  have h1 := h.1
  have hl := EN_len ok
  unfold f_X11_findFits
  have l1 : whl (f_X11_findFits_L4 (X + 90) (nI st) (0 : Int32)) ((0 : Int32), μ) = some (ms_B μ (X + 124) (fun k => if k < 232 then 0 else mm_L μ (X + 124) k)) := by
    refine whl_c 232 (fun i => (nI i, ms_B μ (X + 124) (fun k => if k < i then 0 else mm_L μ (X + 124) k))) ?_ (fun i hi => ?_) ?_
    · rw [fill_0 (fun _ => (0 : Int64)), sB_id]
      rfl
    · have hS : Sh X (ms_B μ (X + 124) (fun k => if k < i then 0 else mm_L μ (X + 124) k)) := h1
      simp only [f_X11_findFits_L4]
      rw [if_neg (by rw [show (232 : Int32) = nI 232 from rfl, nI_le_i (by omega) (by omega)]; omega), rp_90_57 hS, ob, wa_124 hS _ hi, ob, ob, nI_1, sB_L, u1_fill (fun _ => (0 : Int64))]
    · rfl
  rw [if_pos (by rw [mk_90 h1]), l1, ob]
  unfold f_X11_findFits_J24
  have loop := whl_i (body := f_X11_findFits_L26 (X + 90) (nI st)) (EN s.1).length (fun k (x : Int32 × Int32 × Mm) => ∃ π, x = (nI (cntb (fits s.1 s.2.2.2.2.2.1 st) k), nI k, π) ∧ FrK X μ π ∧ BF X (fits s.1 s.2.2.2.2.2.1 st) k π) (Q := fun r => ∃ π, r = (nI (cntb (fits s.1 s.2.2.2.2.2.1 st) (EN s.1).length), π) ∧ FrK X μ π ∧ BF X (fits s.1 s.2.2.2.2.2.1 st) (EN s.1).length π) (s0 := ((0 : Int32), (0 : Int32), ms_B μ (X + 124) (fun k => if k < 232 then 0 else mm_L μ (X + 124) k))) ⟨_, rfl, FrK_B, fun j hj => ?_⟩ ?_ ?_
  · obtain ⟨r, q1, π, q2, q3⟩ := loop
    exact ⟨π, by rw [q1, ob, q2], q3⟩
  · rw [rB, if_pos rfl, if_pos hj]
    have : bm (fun i => decide (64 * j + i < 0) && fits s.1 s.2.2.2.2.2.1 st (64 * j + i)) 64 = 0 := by
      rw [bm_z]
      intro i _
      rw [decide_eq_false (by omega), Bool.false_and]
    rw [this]; rfl
  · rintro k x hk ⟨π, rfl, q1, q2⟩
    obtain ⟨ir, -⟩ := IR_k h q1
    obtain ⟨π1, f1, f2⟩ := r_fits (t := k) (st := st) ir ok oa hk hs
    have g1 := ir.1
    have fk1 := FrK_t q1 f2.1
    have ir1 := (IR_k h fk1).1
    simp only [f_X11_findFits_L26, f_X11_findFits_J72]
    rw [rf_90 g1, ob, ir.2.1.2.2.1, if_neg (by rw [nI_le_i (by omega) (by omega)]; omega), rp_90_34 g1, ob, r_row g1 ir.2.1 ok hk, ob, f1, ob]
    have ec : cntb (fits s.1 s.2.2.2.2.2.1 st) (k + 1) = cntb (fits s.1 s.2.2.2.2.2.1 st) k + (fits s.1 s.2.2.2.2.2.1 st k).toNat := rfl
    rw [ec]
    cases ef : fits s.1 s.2.2.2.2.2.1 st k with
    | false =>
      refine ⟨_, by rw [if_pos (show (nI false.toNat, π1).1 = 0 from rfl), ob, nI_1]; rfl, π1, rfl, fk1, fun j hj => ?_⟩
      rw [f2.2.1, q2 j hj]
      congr 1
      apply bm_x
      intro i hi
      by_cases w : 64 * j + i = k
      · rw [w, ef, Bool.and_false, Bool.and_false]
      · by_cases w2 : 64 * j + i < k
        · rw [decide_eq_true w2, decide_eq_true (show 64 * j + i < k + 1 by omega)]
        · rw [decide_eq_false w2, decide_eq_false (show ¬ 64 * j + i < k + 1 by omega)]
    | true =>
      have hv : mm_L π1 (X + 124) (k / 64) = lN (bm (fun i => decide (64 * (k / 64) + i < k) && fits s.1 s.2.2.2.2.2.1 st (64 * (k / 64) + i)) 64) := by rw [f2.2.1]; exact q2 _ (by omega)
      have e64 : (nI k - nI k / (64 : Int32) * (64 : Int32)) = nI (k % 64) := by rw [show (64 : Int32) = nI 64 from rfl, pk_rem (by omega) (by decide) (by decide)]
      have d64 : nI k / (64 : Int32) = nI (k / 64) := by rw [show (64 : Int32) = nI 64 from rfl, pk_div (by omega) (by decide) (by decide)]
      have sh : (1 : Int64) <<< ((nI (k % 64)).toInt64 &&& 63) = lN (2 ^ (k % 64)) := by
        have hp : (2 : Nat) ^ (k % 64) < 2 ^ 64 := Nat.pow_lt_pow_right (by decide) (by omega)
        rw [show (1 : Int64) = lN 1 from rfl, l_shl (by omega) (by omega), Nat.one_mul]
      refine ⟨_, by rw [if_neg (show ¬ (nI true.toNat, π1).1 = 0 by show ¬ nI 1 = 0; decide), rp_90_57 ir1.1, ob, e64, d64, ra_124 ir1.1 (by omega), ob, hv, sh, lN_or, bm_set _ (by omega), wa_124 ir1.1 _ (by omega), ob, ob, ob, nI_1, nI_1]; rfl, ms_L π1 (X + 124) (k / 64) (lN (bm (fun i => (decide (64 * (k / 64) + i < k) && fits s.1 s.2.2.2.2.2.1 st (64 * (k / 64) + i)) || i == k % 64) 64)), rfl, FrK_t fk1 FrK_L, fun j hj => ?_⟩
      rw [rL]
      by_cases w : j = k / 64
      · rw [if_pos ⟨rfl, w⟩, w]
        congr 1
        apply bm_x
        intro i hi
        by_cases w1 : i = k % 64
        · have e1 : 64 * (k / 64) + i = k := by omega
          have e2 : (i == k % 64) = true := by simpa using w1
          rw [e1, ef, e2, decide_eq_true (show k < k + 1 by omega)]
          simp
        · have e2 : (i == k % 64) = false := by simpa using w1
          rw [e2, Bool.or_false]
          by_cases w2 : 64 * (k / 64) + i < k
          · rw [decide_eq_true w2, decide_eq_true (show 64 * (k / 64) + i < k + 1 by omega)]
          · rw [decide_eq_false w2, decide_eq_false (show ¬ 64 * (k / 64) + i < k + 1 by omega)]
      · rw [if_neg (fun z => w z.2), f2.2.1, q2 j hj]
        congr 1
        apply bm_x
        intro i hi
        by_cases w2 : 64 * j + i < k
        · rw [decide_eq_true w2, decide_eq_true (show 64 * j + i < k + 1 by omega)]
        · rw [decide_eq_false w2, decide_eq_false (show ¬ 64 * j + i < k + 1 by omega)]
  · rintro x ⟨π, rfl, q1, q2⟩
    obtain ⟨ir, -⟩ := IR_k h q1
    refine ⟨_, ?_, π, rfl, q1, q2⟩
    simp only [f_X11_findFits_L26]
    rw [rf_90 ir.1, ob, ir.2.1.2.2.1, if_pos (nI_le (Nat.le_refl _) (by omega))]
end FIT
/-! ===== fit and sure, both ===== -/
section CALLS
variable {b L : Nat} {xs : Nat → Int32} {X i c : Nat} {s : Sv} {μ ν : Mm}
theorem k_fit (a1 a2 : Int32) (h0 : mm_K μ b = (19, L) ∧ mm_I μ b = xs ∧ b < X) (h : IC X i c s μ) (hR : IR X s μ) : ∃ r μ1 μ2, f_X10_fit X a1 a2 μ = some (r, μ1) ∧ f_X11_fit (X + 90) a1 a2 μ1 = some (r, μ2) ∧ Inv b L xs X (i + 1) μ2 ∧ (mm_K μ1 b = (19, L) ∧ mm_I μ1 b = xs) := by
  have h1 := h.1.1
  have ok := h.2.1.1
  have hl := EN_len ok
  obtain ⟨oa, -⟩ := h.2.2.2.2.1
  have hpos : 0 < (EN s.1).length := by have := h.2.1.2.1; omega
  by_cases e : inR a1 1000 ∧ inR a2 3
  · obtain ⟨e1, e2⟩ := e
    obtain ⟨st, hs, rfl⟩ := inR_ex e1 (by decide)
    obtain ⟨g, hg, rfl⟩ := inR_ex e2 (by decide)
    obtain ⟨Rw, Ft, nr, sz, fo, Ml, Ln, as, z0, -⟩ := cc_z h.2.2.2.2.2.2
    obtain ⟨ν, Rw', Ft', nr', fo', Ml', Ln', a1', a2', a3', a4', -⟩ := z_fit (st := st) (IC_w h) (by omega) z0
    obtain ⟨icν, chν⟩ := IC_fin h a2' a3'.1 a4'
    have gν := icν.1.1
    have hx : f_X10_fit X (nI st) (nI g) μ = some (if g = 0 then nI (cntb (fits s.1 s.2.2.2.2.2.1 st) (EN s.1).length) else if g = 1 then oI (ff (fits s.1 s.2.2.2.2.2.1 st) (EN s.1).length) else oI (lst (fits s.1 s.2.2.2.2.2.1 st) (EN s.1).length), ν) := by
      unfold f_X10_fit
      rw [if_pos (by rw [mk_0 h1]), c_isStep, ob, bz_if, if_pos e1, if_neg (nI_pos (by omega)), if_pos (by rw [show (2 : Int32) = nI 2 from rfl, nI_le_i (by omega) (by omega)]; omega), rp_0_5 h1, ob, a1', ob, rp_0_5 gν, ob, rf_66 gν, ob, a3'.2.1, flt_n]
      by_cases w0 : g = 0
      · rw [if_pos (by rw [w0]; rfl), if_pos w0]
      · rw [if_neg (by rw [nI_z (by omega)]; exact w0), if_neg w0]
        by_cases w1 : g = 1
        · rw [if_pos (by rw [w1]; rfl), if_pos w1, ob, e_least gν a3' ok hpos, ob]
        · rw [if_neg (by rw [show (1 : Int32) = nI 1 from rfl, nI_eq_i (by omega) (by omega)]; exact w1), if_neg w1, ob, e_great gν a3' ok hpos, ob]
    refine both h0 hR hx (IC_up icν) chν (fun hν => ?_)
    obtain ⟨π, p1, p2, p3⟩ := r_find (st := st) hν ok oa (by omega)
    obtain ⟨ir, ch⟩ := IR_k hν p2
    refine ⟨π, ?_, ir, ch⟩
    unfold f_X11_fit
    rw [if_pos (by rw [mk_90 hν.1]), r_isStep, ob, bz_if, if_pos e1, e_in, ob, bz_if, if_pos (by rw [show (0 : Int32) = nI 0 from rfl, show (2 : Int32) = nI 2 from rfl, nI_le_i (by decide) (by omega), nI_le_i (by omega) (by decide)]; omega), p1, ob]
    by_cases w0 : g = 0
    · rw [if_pos (by rw [w0]; rfl), if_pos w0]
    · rw [if_neg (by rw [nI_z (by omega)]; exact w0), if_neg w0]
      have key : whl (f_X11_fit_L37 (X + 90) (nI g) π) ((-1 : Int32), (0 : Int32)) = some (if g = 1 then oI (ff (fits s.1 s.2.2.2.2.2.1 st) (EN s.1).length) else oI (lst (fits s.1 s.2.2.2.2.2.1 st) (EN s.1).length)) := by
        refine whl_c (EN s.1).length (fun k => ((if g = 1 then oI (ff (fits s.1 s.2.2.2.2.2.1 st) k) else oI (lst (fits s.1 s.2.2.2.2.2.1 st) k)), nI k)) ?_ (fun k hk => ?_) ?_
        · by_cases w1 : g = 1
          · rw [if_pos w1]; rfl
          · rw [if_neg w1]; rfl
        · simp only [f_X11_fit_L37, f_X11_fit_J66, f_X11_fit_J70]
          rw [rf_90 ir.1, ob, ir.2.1.2.2.1, if_neg (by rw [nI_le_i (by omega) (by omega)]; omega), r_isFit ir.1 p3 hk hl, ob]
          have el : lst (fits s.1 s.2.2.2.2.2.1 st) (k + 1) = if fits s.1 s.2.2.2.2.2.1 st k then some k else lst (fits s.1 s.2.2.2.2.2.1 st) k := rfl
          rw [ff_succ, el]
          cases ef : fits s.1 s.2.2.2.2.2.1 st k with
          | false =>
            rw [if_pos (show nI false.toNat = 0 from rfl), ob, nI_1]
            congr 3
            by_cases w1 : g = 1
            · rw [if_pos w1, if_pos w1]
              cases ff (fits s.1 s.2.2.2.2.2.1 st) k <;> rfl
            · rw [if_neg w1, if_neg w1]
              rfl
          | true =>
            rw [if_neg (show ¬ nI true.toNat = 0 by decide), ob, ob, nI_1]
            by_cases w1 : g = 1
            · rw [if_neg (by rw [w1]; decide), if_pos w1, if_pos w1]
              cases eff : ff (fits s.1 s.2.2.2.2.2.1 st) k with
              | none => rw [if_pos (show oI none = -1 from rfl)]; rfl
              | some j =>
                have := (ff_some.mp eff).1
                rw [if_neg (show ¬ oI (some j) = -1 from neg1_ne (by omega))]
            · rw [if_pos (by rw [show g = 2 by omega]; rfl), if_neg w1]
              rfl
        · simp only [f_X11_fit_L37]
          rw [rf_90 ir.1, ob, ir.2.1.2.2.1, if_pos (nI_le (Nat.le_refl _) (by omega))]
      rw [key, ob]
  · refine both h0 hR (r := -2) (μ1 := μ) ?_ (IC_up h) (ChC_r _ _) (fun hν => ⟨_, ?_, hν, ChM_r _ _⟩)
    · unfold f_X10_fit
      rw [if_pos (by rw [mk_0 h1]), c_isStep, ob, bz_if]
      by_cases e1 : inR a1 1000
      · rw [if_pos e1]
        by_cases w : a2 < 0
        · rw [if_pos w]
        · rw [if_neg w, if_neg (fun y => e ⟨e1, ?_⟩)]
          rw [lt0] at w
          rw [show (2 : Int32) = nI 2 from rfl, nI_le' (by decide)] at y
          exact ⟨by omega, by omega⟩
      · rw [if_neg e1]
    · unfold f_X11_fit
      rw [if_pos (by rw [mk_90 hν.1]), r_isStep, ob, bz_if, e_in, ob, bz_if]
      by_cases e1 : inR a1 1000
      · rw [if_pos e1, if_neg (fun y => e ⟨e1, ?_⟩)]
        rw [show (0 : Int32) = nI 0 from rfl, show (2 : Int32) = nI 2 from rfl, le_nI (by decide), nI_le' (by decide)] at y
        exact ⟨by omega, by omega⟩
      · rw [if_neg e1]
end CALLS
