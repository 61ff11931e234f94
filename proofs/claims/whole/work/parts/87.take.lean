/-! ===== take ===== -/
section CALLS
variable {b L : Nat} {xs : Nat → Int32} {X i c : Nat} {s : Sv} {μ : Mm}
def m_tkR (X j : Nat) (μ : Mm) : Mm := ms_A (ms_L (ms_I (ms_I (ms_I μ (X + 90) 64 1) (X + 90) 65 (mm_I μ (X + 131) j)) (X + 90) 66 (mm_I μ (X + 132) j)) (X + 90) 67 (mm_L μ (X + 133) j)) (X + 130) (fun q => if q < 8 then mm_I μ (X + 130) (8 * (j + 1) + q) else mm_I μ (X + 130) q)
theorem m_tkR_P (X j : Nat) (μ : Mm) : mm_P (m_tkR X j μ) = mm_P μ := rfl
theorem m_tkR_t (X j : Nat) (μ : Mm) : tl (m_tkR X j μ) = tl μ := rfl
theorem m_tkR_L {X j q : Nat} {μ : Mm} (h : q ≠ X + 90) : mm_L (m_tkR X j μ) q = mm_L μ q := by
  show mm_L (ms_L _ (X + 90) 67 _) q = _
  rw [lL, if_neg h]
  rfl
theorem m_tkR_o {X j q : Nat} {μ : Mm} (g1 : q ≠ X + 90) (g2 : q ≠ X + 130) : mm_I (m_tkR X j μ) q = mm_I μ q := by
  unfold m_tkR
  rw [rA, if_neg g2, iL, iI, if_neg g1, iI, if_neg g1, iI, if_neg g1]
theorem m_tkR_f {X j k : Nat} {μ : Mm} (j2 : k ≠ 64) (j3 : k ≠ 65) (j4 : k ≠ 66) : mm_I (m_tkR X j μ) (X + 90) k = mm_I μ (X + 90) k := by
  unfold m_tkR
  rw [rA, if_neg (by omega), iL]
  simp only [rI]
  rw [if_neg (by omega), if_neg (by omega), if_neg (by omega)]
theorem m_tkR_r {X j : Nat} {μ : Mm} : mm_I (m_tkR X j μ) (X + 90) 64 = 1 ∧ mm_I (m_tkR X j μ) (X + 90) 65 = mm_I μ (X + 131) j ∧ mm_I (m_tkR X j μ) (X + 90) 66 = mm_I μ (X + 132) j ∧ mm_L (m_tkR X j μ) (X + 90) 67 = mm_L μ (X + 133) j ∧ ∀ q, mm_I (m_tkR X j μ) (X + 130) q = if q < 8 then mm_I μ (X + 130) (8 * (j + 1) + q) else mm_I μ (X + 130) q := by
  refine ⟨by unfold m_tkR; simp [rA, rI, iL], by unfold m_tkR; simp [rA, rI, iL], by unfold m_tkR; simp [rA, rI, iL], ?_, fun q => ?_⟩
  · show mm_L (ms_L _ (X + 90) 67 _) (X + 90) 67 = _
    rw [rL, if_pos ⟨rfl, rfl⟩]
  · unfold m_tkR
    rw [rA, if_pos rfl]
theorem r_take {j : Nat} {ν : Mm} (hj : j < 3) (hν : IR X s ν) (e : (s.2.2.2.2.2.2 (j + 1)).1 = true) : f_X11_take (X + 90) (nI j) ν = some (nI (s.2.2.2.2.2.2 (j + 1)).2.2.2.1, m_tkR X j ν) := by
  have h9 := hν.1
  obtain ⟨q1, q2⟩ := hν.2.2.2.2.2.2 j hj
  obtain ⟨z1, z2, z3, z4⟩ := q2 e
  rw [e] at q1
  unfold f_X11_take
  rw [if_pos (by rw [mk_90 h9]), r_isSlot, ob, bz_if, if_pos (inR_nI hj (by decide)), rp_90_72 h9, ob, e_gaZ (mk_134 h9) hj (by decide), ob, q1, if_neg (by decide), wz1_90 h9, ob]
  simp (maxDischargeDepth := 30) only [rp_90_69, rp_90_70, rp_90_71, ra_131, ra_132, ra_133, wf_90, wl_90, shI', shL', h9, hj, ob]
  have r1 : mm_I (ms_I ν (X + 90) 64 1) (X + 131) j = mm_I ν (X + 131) j := by rw [iI, if_neg (by omega)]
  have r2 : mm_I (ms_I (ms_I ν (X + 90) 64 1) (X + 90) 65 (mm_I ν (X + 131) j)) (X + 132) j = mm_I ν (X + 132) j := by rw [iI, if_neg (by omega), iI, if_neg (by omega)]
  have r3 : mm_L (ms_I (ms_I (ms_I ν (X + 90) 64 1) (X + 90) 65 (mm_I ν (X + 131) j)) (X + 90) 66 (mm_I ν (X + 132) j)) (X + 133) j = mm_L ν (X + 133) j := rfl
  rw [r1, r2, r3]
  unfold m_tkR
  have hr130 : mm_I ν (X + 130) = mm_I (ms_L (ms_I (ms_I (ms_I ν (X + 90) 64 1) (X + 90) 65 (mm_I ν (X + 131) j)) (X + 90) 66 (mm_I ν (X + 132) j)) (X + 90) 67 (mm_L ν (X + 133) j)) (X + 130) := by rw [iL, iI, if_neg (by omega), iI, if_neg (by omega), iI, if_neg (by omega)]
  have v66 : mm_I (ms_L (ms_I (ms_I (ms_I ν (X + 90) 64 1) (X + 90) 65 (mm_I ν (X + 131) j)) (X + 90) 66 (mm_I ν (X + 132) j)) (X + 90) 67 (mm_L ν (X + 133) j)) (X + 90) 66 = nI (s.2.2.2.2.2.2 (j + 1)).2.2.2.1 := by rw [iL, rI, if_pos ⟨rfl, rfl⟩, z3]
  rw [hr130]
  have hS : Sh X (ms_L (ms_I (ms_I (ms_I ν (X + 90) 64 1) (X + 90) 65 (mm_I ν (X + 131) j)) (X + 90) 66 (mm_I ν (X + 132) j)) (X + 90) 67 (mm_L ν (X + 133) j)) := h9
  generalize ms_L (ms_I (ms_I (ms_I ν (X + 90) 64 1) (X + 90) 65 (mm_I ν (X + 131) j)) (X + 90) 66 (mm_I ν (X + 132) j)) (X + 90) 67 (mm_L ν (X + 133) j) = π at hS v66 ⊢
  refine (whl_b 8 (fun x => (nI x, ms_A π (X + 130) (fun q => if q < x then mm_I π (X + 130) (8 * (j + 1) + q) else mm_I π (X + 130) q))) (b := ms_A π (X + 130) (fun q => if q < 8 then mm_I π (X + 130) (8 * (j + 1) + q) else mm_I π (X + 130) q)) ?_ (fun x hx => ?_) ?_).trans ?_
  · rw [fill_0, sA_id]; rfl
  · have hS2 : Sh X (ms_A π (X + 130) (fun q => if q < x then mm_I π (X + 130) (8 * (j + 1) + q) else mm_I π (X + 130) q)) := hS
    simp only [f_X11_take_L59]
    rw [if_neg (by rw [show (8 : Int32) = nI 8 from rfl, nI_le_i (by omega) (by omega)]; omega), rp_90_68 hS2, ob, ob, nI_1, show (8 : Int32) = nI 8 from rfl, pk_mul, nI_add, ra_130 hS2 (by omega), ob, rA, if_pos rfl, if_neg (by omega), wa_130 hS2 _ (by omega), ob, ob, sA_I, nI_1, u1_fill (fun q => mm_I π (X + 130) (8 * (j + 1) + q))]
  · simp only [f_X11_take_L59]
    rw [if_pos (by decide)]
  · unfold f_X11_take_J90
    have hS2 : ∀ g, Sh X (ms_A π (X + 130) g) := fun _ => hS
    rw [rf_90 (hS2 _), ob, rA, if_neg (by omega), v66]
theorem IR_tk {j : Nat} {ν : Mm} (hj : j < 3) (hν : IR X s ν) (e : (s.2.2.2.2.2.2 (j + 1)).1 = true) : IR X (s.1, s.2.1, s.2.2.1, s.2.2.2.1, s.2.2.2.2.1, s.2.2.2.2.2.1, u1 s.2.2.2.2.2.2 0 (s.2.2.2.2.2.2 (j + 1))) (m_tkR X j ν) := by
  have hr := m_tkR_r (X := X) (j := j) (μ := ν)
  have ho := fun q => m_tkR_o (X := X) (q := q) (j := j) (μ := ν)
  have hf := fun q => m_tkR_f (X := X) (k := q) (j := j) (μ := ν)
  have hL := fun q => m_tkR_L (X := X) (q := q) (j := j) (μ := ν)
  have hS : Sh X (m_tkR X j ν) := sh_x (m_tkR_P _ _ _) (m_tkR_t _ _ _) hν.1
  generalize m_tkR X j ν = π at hr ho hf hL hS ⊢
  refine IR_rn hS (fun j _ j2 j3 j4 => hf j j2 j3 j4) (fun q q1 q2 q3 q4 => ho q q3 (by omega)) (fun q _ q2 _ => hL q q2) ?_ hν
  obtain ⟨x1, x2⟩ := hν.2.2.2.2.2
  obtain ⟨w1, w2, w3, w4⟩ := (x2 j hj).2 e
  refine ⟨?_, fun k hk => ?_⟩
  · rw [u1_s]
    refine ⟨by rw [e]; exact hr.1, fun _ => ⟨hr.2.1.trans w1, hr.2.2.2.1.trans w2, hr.2.2.1.trans w3, fun p hp => ?_⟩⟩
    rw [hr.2.2.2.2, if_pos hp]
    exact w4 p hp
  · rw [u1_n _ _ (by omega), ho (X + 134) (by omega) (by omega), ho (X + 131) (by omega) (by omega), ho (X + 132) (by omega) (by omega), hL (X + 133) (by omega)]
    have := x2 k hk
    refine ⟨this.1, fun q => ?_⟩
    obtain ⟨y1, y2, y3, y4⟩ := this.2 q
    refine ⟨y1, y2, y3, fun p hp => ?_⟩
    rw [hr.2.2.2.2, if_neg (by omega)]
    exact y4 p hp
theorem IC_tk {j : Nat} (hj : j < 3) (h : IC X i c s μ) : IC X (i + 1) c (s.1, s.2.1, s.2.2.1, s.2.2.2.1, s.2.2.2.2.1, s.2.2.2.2.2.1, u1 s.2.2.2.2.2.2 0 (s.2.2.2.2.2.2 (j + 1))) (m_cp (X + 13) (X + 84 + 2 * j) μ) := by
  have hrn := h.2.2.2.2.2.1
  refine IC_rn (by rfl) (by rfl) (fun q _ g1 g2 _ => m_cp_o g1 g2) (by rfl) (u1R_ok (fun j => okRs_up (hrn.1 j)) (okRs_up (hrn.1 _))) ?_ h
  refine cr_mk ?_ (fun k hk => ?_)
  · rw [u1_s]
    exact m_cp_r (cr_j hrn.2 j hj)
  · rw [u1_n _ _ (by omega)]
    exact cr1_x (m_cp_o (by omega) (by omega)) (m_cp_o (by omega) (by omega)) (cr_j hrn.2 k hk)
theorem k_take (a : Int32) (h0 : mm_K μ b = (19, L) ∧ mm_I μ b = xs ∧ b < X) (h : IC X i c s μ) (hR : IR X s μ) : ∃ r μ1 μ2, f_X10_take X a μ = some (r, μ1) ∧ f_X11_take (X + 90) a μ1 = some (r, μ2) ∧ Inv b L xs X (i + 1) μ2 ∧ (mm_K μ1 b = (19, L) ∧ mm_I μ1 b = xs) := by
  have h1 := h.1.1
  have hrn := h.2.2.2.2.2.1
  by_cases c1 : inR a 3
  · obtain ⟨j, hj, rfl⟩ := inR_ex c1 (by decide)
    obtain ⟨x1, x2, x3, x4⟩ := slot_a h1 j hj
    have hcj := cr_j hrn.2 j hj
    have ega := e_gaP (mk_15 h1) hj (by decide) x1
    have e10 : f_X10_take X (nI j) μ = if (s.2.2.2.2.2.2 (j + 1)).1 = false then some (-4, μ) else (f_X3_copyFrom (X + 13) (X + 84 + 2 * j) μ).bind fun x41 => (gf_P 11 6 X x41).bind fun x45 => (gf_I 4 4 x45 x41).bind fun x48 => some (x48, x41) := by
      unfold f_X10_take
      rw [if_pos (by rw [mk_0 h1]), rp_0_7 h1, ob, ln_15 h1, ob, two_ends3 (by decide), if_pos c1, ob, ega, ob, e_gfI (by rw [x2]), ob, hcj.1, rp_0_6 h1, ob]
      simp only [nI_b0, ob, ega]
    cases e : (s.2.2.2.2.2.2 (j + 1)).1 with
    | false =>
      rw [e, if_pos rfl] at e10
      refine both h0 hR e10 (IC_up h) (ChC_r _ _) (fun hν => ⟨_, ?_, hν, ChM_r _ _⟩)
      have q1 := (hν.2.2.2.2.2.2 j hj).1
      rw [e] at q1
      unfold f_X11_take
      rw [if_pos (by rw [mk_90 hν.1]), r_isSlot, ob, bz_if, if_pos c1, rp_90_72 hν.1, ob, e_gaZ (mk_134 hν.1) hj (by decide), ob, q1, if_pos (show nI false.toNat = 0 from rfl)]
    | true =>
      rw [e, if_neg (by decide)] at e10
      have hx : f_X10_take X (nI j) μ = some (nI (s.2.2.2.2.2.2 (j + 1)).2.2.2.1, m_cp (X + 13) (X + 84 + 2 * j) μ) := by
        rw [e10, e_copy (mk_13 h1) (mp_13_0 h1) (mk_14 h1) x2 x3 x4 (by omega) (by omega) (by omega) (by rw [hcj.1]; exact nI_tn _), ob]
        have hS : Sh X (m_cp (X + 13) (X + 84 + 2 * j) μ) := h1
        have hr := (m_cp_r (a := X + 13) hcj).2 e
        rw [rp_0_6 hS, ob, rf_13 hS, ob, hr.2.2.1]
      exact both h0 hR hx (IC_tk hj h) ⟨fun q hq => m_cp_o (by unfold inM at hq; omega) (by unfold inM at hq; omega), fun _ _ => rfl, fun q hq => ⟨m_cp_o (by omega) (by omega), rfl⟩⟩ (fun hν => ⟨_, r_take hj hν e, IR_tk hj hν e, fun q hq => m_tkR_o (by unfold inM at hq; omega) (by unfold inM at hq; omega), fun q hq => m_tkR_L (by unfold inM at hq; omega), m_tkR_P _ _ _, m_tkR_t _ _ _⟩)
  · refine both h0 hR (r := -2) (μ1 := μ) ?_ (IC_up h) (ChC_r _ _) (fun hν => ⟨_, ?_, hν, ChM_r _ _⟩)
    · unfold f_X10_take
      rw [if_pos (by rw [mk_0 h1]), rp_0_7 h1, ob, ln_15 h1, ob, two_ends3 (by decide), if_neg c1]
    · unfold f_X11_take
      rw [if_pos (by rw [mk_90 hν.1]), r_isSlot, ob, bz_if, if_neg c1]
end CALLS
