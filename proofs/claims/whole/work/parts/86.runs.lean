/-! ===== runs: begin, keep, take ===== -/
theorem IC_rn {X i i' c : Nat} {R' : Nat → Rs} {s : Sv} {μ μ' : Mm} (hP : mm_P μ' = mm_P μ) (ht : tl μ' = tl μ) (hI : ∀ q, ¬ scr X q → q ≠ X + 13 → q ≠ X + 14 → ¬ (X + 84 ≤ q ∧ q < X + 90) → mm_I μ' q = mm_I μ q) (hL : mm_L μ' = mm_L μ) (ho : ∀ j, OkRs s.1 i' (R' j)) (hr : Cr X s.1 R' μ') (h : IC X i c s μ) : IC X i' c (s.1, s.2.1, s.2.2.1, s.2.2.2.1, s.2.2.2.2.1, s.2.2.2.2.2.1, R') μ' := by
  obtain ⟨h1, h2, h3, h4, ⟨h5a, h5⟩, h6, h7⟩ := h
  have hc := h1.2.1
  have hi : ∀ q, (∃ k, q = X + k ∧ k ≠ 3 ∧ k ≠ 13 ∧ k ≠ 14 ∧ k ≠ 16 ∧ k ≠ 17 ∧ k ≠ 18 ∧ k ≠ 19 ∧ k ≠ 58 ∧ k ≠ 62 ∧ k ≠ 63 ∧ (k < 84 ∨ 90 ≤ k)) → mm_I μ' q = mm_I μ q := fun q ⟨k, e, hk⟩ => by
    subst e
    exact hI _ (by unfold scr; omega) (by omega) (by omega) (by omega)
  obtain ⟨g1, g2, g3, g4, g5, g6⟩ := h2
  exact ⟨cb_x hP ht h1, ⟨g1, g2, ctn_x (fun q _ _ => hi q ⟨q - X, by omega, by omega⟩) g3, tuP_x (fun q _ _ => hi q ⟨q - X, by omega, by omega⟩) g4, spT_x hP (fun q _ => hi q ⟨q - X, by omega, by omega⟩) g5, by rw [hi X ⟨0, rfl, by omega⟩]; exact g6⟩, cp_x (hi _ ⟨1, rfl, by omega⟩) (hi _ ⟨2, rfl, by omega⟩) h3, cf_x (hi _ ⟨57, rfl, by omega⟩) h4, ⟨h5a, ca_x (fun q _ _ => hi q ⟨q - X, by omega, by omega⟩) h5⟩, ⟨ho, hr⟩, cc_x hP ht (fun k _ _ => by rw [hi (X + 66) ⟨66, rfl, by omega⟩]) (fun q _ => hi q ⟨q - X, by omega, by omega⟩) (fun q _ => by rw [hL]) h7⟩
theorem IR_rn {X : Nat} {R' : Nat → Rs} {s : Sv} {μ μ' : Mm} (hs : Sh X μ') (hf : ∀ k, fdM k → k ≠ 64 → k ≠ 65 → k ≠ 66 → mm_I μ' (X + 90) k = mm_I μ (X + 90) k) (hI : ∀ q, inM X q → ¬ scM X q → q ≠ X + 90 → ¬ (X + 130 ≤ q ∧ q ≤ X + 134) → mm_I μ' q = mm_I μ q) (hL : ∀ q, inM X q → q ≠ X + 90 → q ≠ X + 133 → mm_L μ' q = mm_L μ q) (hr : Rr X R' μ') (h : IR X s μ) : IR X (s.1, s.2.1, s.2.2.1, s.2.2.2.1, s.2.2.2.2.1, s.2.2.2.2.2.1, R') μ' := by
  obtain ⟨-, h1, h2, h3, h4, h5⟩ := h
  have hi : ∀ q, (∃ k, q = X + k ∧ 91 ≤ k ∧ k < 130 ∧ k ≠ 93 ∧ k ≠ 111 ∧ k ≠ 112 ∧ k ≠ 113 ∧ k ≠ 114 ∧ k ≠ 115 ∧ k ≠ 124 ∧ k ≠ 125 ∧ k ≠ 126 ∧ k ≠ 127 ∧ k ≠ 128 ∧ k ≠ 129) → mm_I μ' q = mm_I μ q := fun q ⟨k, e, hk⟩ => by
    subst e
    exact hI _ (by unfold inM; omega) (by unfold scM; omega) (by omega) (by omega)
  refine ⟨hs, ?_, rp_x (hf 1 (by unfold fdM; omega) (by omega) (by omega) (by omega)) (hi _ ⟨91, rfl, by omega⟩) h2, rf_x (hf 8 (by unfold fdM; omega) (by omega) (by omega) (by omega)) (hf 9 (by unfold fdM; omega) (by omega) (by omega) (by omega)) h3, ra_x (fun k hk => hf k (by unfold fdM; omega) (by omega) (by omega) (by omega)) (fun q g1 g2 => hi q ⟨q - X, by omega, by omega⟩) h4, hr⟩
  unfold Rt at h1 ⊢
  rw [hf 30 (by unfold fdM; omega) (by omega) (by omega) (by omega), hf 32 (by unfold fdM; omega) (by omega) (by omega) (by omega), hf 33 (by unfold fdM; omega) (by omega) (by omega) (by omega), hf 37 (by unfold fdM; omega) (by omega) (by omega) (by omega), hL (X + 110) ⟨by omega, by omega⟩ (by omega) (by omega)]
  have hM : MTn (X + 90) 0 s.1 μ' := by
    have h0 := h1.1
    unfold MTn at h0 ⊢
    rw [hi (X + 90 + 2) ⟨92, rfl, by omega⟩, hi (X + 90 + 4) ⟨94, rfl, by omega⟩, hi (X + 90 + 5) ⟨95, rfl, by omega⟩, hi (X + 90 + 6) ⟨96, rfl, by omega⟩, hi (X + 90 + 7) ⟨97, rfl, by omega⟩, hi (X + 90 + 8) ⟨98, rfl, by omega⟩, hi (X + 90 + 9) ⟨99, rfl, by omega⟩, hi (X + 90 + 10) ⟨100, rfl, by omega⟩, hi (X + 90 + 11) ⟨101, rfl, by omega⟩, hi (X + 90 + 12) ⟨102, rfl, by omega⟩, hi (X + 90 + 13) ⟨103, rfl, by omega⟩, hi (X + 90 + 14) ⟨104, rfl, by omega⟩, hi (X + 90 + 15) ⟨105, rfl, by omega⟩, hi (X + 90 + 16) ⟨106, rfl, by omega⟩, hi (X + 90 + 17) ⟨107, rfl, by omega⟩, hi (X + 90 + 18) ⟨108, rfl, by omega⟩, hi (X + 90 + 19) ⟨109, rfl, by omega⟩]
    exact h0
  exact ⟨hM, h1.2⟩
section CALLS
variable {b L : Nat} {xs : Nat → Int32} {X i c : Nat} {s : Sv} {μ : Mm}
def m_bg (X : Nat) (k : Int32) (w : Int32) (μ : Mm) : Mm := ms_A (ms_I (ms_I (ms_I (ms_I μ (X + 13) 1 1) (X + 13) 2 k) (X + 13) 3 w) (X + 13) 4 0) (X + 14) (fun j => if j < 12 then 0 else mm_I μ (X + 14) j)
def m_bgR (X : Nat) (k : Int64) (w : Int32) (μ : Mm) : Mm := ms_A (ms_I (ms_I (ms_I (ms_L μ (X + 90) 67 k) (X + 90) 64 1) (X + 90) 65 w) (X + 90) 66 0) (X + 130) (fun j => if j < 8 then 0 else mm_I μ (X + 130) j)
theorem m_bg_P (X : Nat) (k w : Int32) (μ : Mm) : mm_P (m_bg X k w μ) = mm_P μ := rfl
theorem m_bg_t (X : Nat) (k w : Int32) (μ : Mm) : tl (m_bg X k w μ) = tl μ := rfl
theorem m_bg_L (X : Nat) (k w : Int32) (μ : Mm) : mm_L (m_bg X k w μ) = mm_L μ := rfl
theorem m_bg_o {X q : Nat} {k w : Int32} {μ : Mm} (g1 : q ≠ X + 13) (g2 : q ≠ X + 14) : mm_I (m_bg X k w μ) q = mm_I μ q := by
  unfold m_bg
  rw [rA, if_neg g2, iI, if_neg g1, iI, if_neg g1, iI, if_neg g1, iI, if_neg g1]
theorem m_bg_r {X : Nat} {k w : Int32} {μ : Mm} : mm_I (m_bg X k w μ) (X + 13) 1 = 1 ∧ mm_I (m_bg X k w μ) (X + 13) 2 = k ∧ mm_I (m_bg X k w μ) (X + 13) 3 = w ∧ mm_I (m_bg X k w μ) (X + 13) 4 = 0 ∧ ∀ j, j < 12 → mm_I (m_bg X k w μ) (X + 14) j = 0 := by
  unfold m_bg
  refine ⟨by simp [rA, rI], by simp [rA, rI], by simp [rA, rI], by simp [rA, rI], fun j hj => ?_⟩
  rw [rA, if_pos rfl, if_pos hj]
theorem m_bgR_P (X : Nat) (k : Int64) (w : Int32) (μ : Mm) : mm_P (m_bgR X k w μ) = mm_P μ := rfl
theorem m_bgR_t (X : Nat) (k : Int64) (w : Int32) (μ : Mm) : tl (m_bgR X k w μ) = tl μ := rfl
theorem m_bgR_L {X q : Nat} {k : Int64} {w : Int32} {μ : Mm} (h : q ≠ X + 90) : mm_L (m_bgR X k w μ) q = mm_L μ q := by
  show mm_L (ms_L μ (X + 90) 67 k) q = _
  rw [lL, if_neg h]
theorem m_bgR_o {X q : Nat} {k : Int64} {w : Int32} {μ : Mm} (g1 : q ≠ X + 90) (g2 : q ≠ X + 130) : mm_I (m_bgR X k w μ) q = mm_I μ q := by
  unfold m_bgR
  rw [rA, if_neg g2, iI, if_neg g1, iI, if_neg g1, iI, if_neg g1]
  rfl
theorem m_bgR_f {X j : Nat} {k : Int64} {w : Int32} {μ : Mm} (j2 : j ≠ 64) (j3 : j ≠ 65) (j4 : j ≠ 66) : mm_I (m_bgR X k w μ) (X + 90) j = mm_I μ (X + 90) j := by
  unfold m_bgR
  rw [rA, if_neg (by omega)]
  simp only [rI, iL]
  rw [if_neg (by omega), if_neg (by omega), if_neg (by omega)]
theorem m_bgR_r {X : Nat} {k : Int64} {w : Int32} {μ : Mm} : mm_I (m_bgR X k w μ) (X + 90) 64 = 1 ∧ mm_I (m_bgR X k w μ) (X + 90) 65 = w ∧ mm_I (m_bgR X k w μ) (X + 90) 66 = 0 ∧ mm_L (m_bgR X k w μ) (X + 90) 67 = k ∧ ∀ j, mm_I (m_bgR X k w μ) (X + 130) j = if j < 8 then 0 else mm_I μ (X + 130) j := by
  refine ⟨by unfold m_bgR; simp [rA, rI], by unfold m_bgR; simp [rA, rI], by unfold m_bgR; simp [rA, rI], ?_, fun j => ?_⟩
  · show mm_L (ms_L μ (X + 90) 67 k) (X + 90) 67 = _
    rw [rL, if_pos ⟨rfl, rfl⟩]
  · unfold m_bgR
    rw [rA, if_pos rfl]
theorem u1R_ok {T : Tn} {i' : Nat} {R : Nat → Rs} {j : Nat} {r : Rs} (h : ∀ j, OkRs T i' (R j)) (hr : OkRs T i' r) : ∀ k, OkRs T i' (u1 R j r k) := fun k => by
  unfold u1
  split
  · exact hr
  · exact h k
theorem okRs_up {T : Tn} {i : Nat} {r : Rs} (h : OkRs T i r) : OkRs T (i + 1) r := fun q => by have := h q; exact ⟨this.1, this.2.1, by omega, this.2.2.2⟩
theorem c_begin {k : Nat} (hk : k < 2 ^ 31) (h : IC X i c s μ) : f_X10_begin X (nI k) μ = some (1, m_bg X (nI k) (nI (cr s.1 (rwT s.1 s.2.1))) μ) := by
  have h1 := h.1.1
  have h15 := h.2.1.2.2.2.2.2
  unfold f_X10_begin f_X3_start
  rw [if_pos (by rw [mk_0 h1]), if_pos (nI_pos' hk), rp_0_6 h1, ob, rf_0 h1, ob, h15, if_pos (by rw [mk_13 h1]), wz1_13 h1, ob]
  generalize nI (cr s.1 (rwT s.1 s.2.1)) = w
  generalize nI k = v
  simp (maxDischargeDepth := 30) only [wf_13, rp_13_0, shI', h1, ob]
  have hK : mm_K (ms_I (ms_I (ms_I (ms_I μ (X + 13) 1 1) (X + 13) 2 v) (X + 13) 3 w) (X + 13) 4 0) (X + 14) = (20, 12) := mk_14 h1
  rw [e_fillI hK (by decide), ob, ob]
  have r14 : mm_I (ms_I (ms_I (ms_I (ms_I μ (X + 13) 1 1) (X + 13) 2 v) (X + 13) 3 w) (X + 13) 4 0) (X + 14) = mm_I μ (X + 14) := by rw [iI, if_neg (by omega), iI, if_neg (by omega), iI, if_neg (by omega), iI, if_neg (by omega)]
  rw [r14]
  rfl
theorem IC_bg {k : Nat} (hk : k < 2 ^ 31) (h : IC X i c s μ) : IC X (i + 1) c (s.1, s.2.1, s.2.2.1, s.2.2.2.1, s.2.2.2.2.1, s.2.2.2.2.2.1, u1 s.2.2.2.2.2.2 0 (true, s.2.1, k, 0, fun _ _ => false)) (m_bg X (nI k) (nI (cr s.1 (rwT s.1 s.2.1))) μ) := by
  have ht := h.2.1.2.1
  have hrn := h.2.2.2.2.2.1
  have hP := m_bg_P X (nI k) (nI (cr s.1 (rwT s.1 s.2.1))) μ
  have hT := m_bg_t X (nI k) (nI (cr s.1 (rwT s.1 s.2.1))) μ
  have hL := m_bg_L X (nI k) (nI (cr s.1 (rwT s.1 s.2.1))) μ
  have ho := fun q => m_bg_o (X := X) (q := q) (k := nI k) (w := nI (cr s.1 (rwT s.1 s.2.1))) (μ := μ)
  have hr := m_bg_r (X := X) (k := nI k) (w := nI (cr s.1 (rwT s.1 s.2.1))) (μ := μ)
  generalize m_bg X (nI k) (nI (cr s.1 (rwT s.1 s.2.1))) μ = π at hP hT hL ho hr ⊢
  refine IC_rn hP hT (fun q _ g1 g2 _ => ho q g1 g2) hL (u1R_ok (fun j => okRs_up (hrn.1 j)) (fun _ => ⟨ht, hk, Nat.zero_le _, fun _ _ _ => rfl⟩)) ?_ h
  refine ⟨?_, cr1_x (ho _ (by omega) (by omega)) (ho _ (by omega) (by omega)) hrn.2.2.1, cr1_x (ho _ (by omega) (by omega)) (ho _ (by omega) (by omega)) hrn.2.2.2.1, cr1_x (ho _ (by omega) (by omega)) (ho _ (by omega) (by omega)) hrn.2.2.2.2⟩
  rw [u1_s]
  exact ⟨hr.1, fun _ => ⟨hr.2.1, hr.2.2.1, hr.2.2.2.1, fun f hf => (hr.2.2.2.2 f hf).trans nz.symm⟩⟩
theorem r_begin {k : Nat} {ν : Mm} (hk : k < 2 ^ 31) (hν : IR X s ν) : f_X11_begin_ (X + 90) (nI k) ν = some (1, m_bgR X (lN k) (nI s.2.1) ν) := by
  have h9 := hν.1
  have h33 := hν.2.1.2.2.2.1
  unfold f_X11_begin_
  rw [if_pos (by rw [mk_90 h9]), if_pos (nI_pos' hk), nI_i64 hk]
  generalize lN k = v
  generalize nI s.2.1 = w at h33 ⊢
  simp (maxDischargeDepth := 30) only [wl_90, wz1_90, rf_90, wf_90, shI', shL', h9, ob, rI, iL, h33, Nat.reduceEqDiff, and_false, if_false]
  have hS : Sh X (ms_I (ms_I (ms_I (ms_L ν (X + 90) 67 v) (X + 90) 64 1) (X + 90) 65 w) (X + 90) 66 0) := h9
  unfold m_bgR
  have hr130 : mm_I ν (X + 130) = mm_I (ms_I (ms_I (ms_I (ms_L ν (X + 90) 67 v) (X + 90) 64 1) (X + 90) 65 w) (X + 90) 66 0) (X + 130) := by rw [iI, if_neg (by omega), iI, if_neg (by omega), iI, if_neg (by omega)]; rfl
  rw [hr130]
  generalize ms_I (ms_I (ms_I (ms_L ν (X + 90) 67 v) (X + 90) 64 1) (X + 90) 65 w) (X + 90) 66 0 = π at hS ⊢
  refine (whl_b 8 (fun j => (nI j, ms_A π (X + 130) (fun x => if x < j then 0 else mm_I π (X + 130) x))) (b := ms_A π (X + 130) (fun x => if x < 8 then 0 else mm_I π (X + 130) x)) ?_ (fun j hj => ?_) ?_)
  · rw [fill_0, sA_id]; rfl
  · have hS2 : Sh X (ms_A π (X + 130) (fun x => if x < j then 0 else mm_I π (X + 130) x)) := hS
    simp only [f_X11_begin__L33]
    rw [if_neg (by rw [show (8 : Int32) = nI 8 from rfl, nI_le_i (by omega) (by omega)]; omega), rp_90_68 hS2, ob, wa_130 hS2 _ (by omega), ob, ob, sA_I, nI_1, u1_fill (fun _ => (0 : Int32))]
  · simp only [f_X11_begin__L33]
    rw [if_pos (by decide)]
theorem IR_bg {k : Nat} {ν : Mm} (hν : IR X s ν) : IR X (s.1, s.2.1, s.2.2.1, s.2.2.2.1, s.2.2.2.2.1, s.2.2.2.2.2.1, u1 s.2.2.2.2.2.2 0 (true, s.2.1, k, 0, fun _ _ => false)) (m_bgR X (lN k) (nI s.2.1) ν) := by
  have hr := m_bgR_r (X := X) (k := lN k) (w := nI s.2.1) (μ := ν)
  have ho := fun q => m_bgR_o (X := X) (q := q) (k := lN k) (w := nI s.2.1) (μ := ν)
  have hf := fun q => m_bgR_f (X := X) (j := q) (k := lN k) (w := nI s.2.1) (μ := ν)
  have hL := fun q => m_bgR_L (X := X) (q := q) (k := lN k) (w := nI s.2.1) (μ := ν)
  have hS : Sh X (m_bgR X (lN k) (nI s.2.1) ν) := sh_x (m_bgR_P _ _ _ _) (m_bgR_t _ _ _ _) hν.1
  generalize m_bgR X (lN k) (nI s.2.1) ν = π at hr ho hf hL hS ⊢
  refine IR_rn hS (fun j _ j2 j3 j4 => hf j j2 j3 j4) (fun q q1 q2 q3 q4 => ho q q3 (by omega)) (fun q _ q2 _ => hL q q2) ?_ hν
  obtain ⟨x1, x2⟩ := hν.2.2.2.2.2
  refine ⟨?_, fun j hj => ?_⟩
  · rw [u1_s]
    refine ⟨hr.1, fun _ => ⟨hr.2.1, hr.2.2.2.1, hr.2.2.1, fun p hp => ?_⟩⟩
    rw [hr.2.2.2.2, if_pos hp]
    show (0 : Int32) = nI (bm (fun _ => false) 12)
    rw [← bm_0]; rfl
  · rw [u1_n _ _ (by omega), ho (X + 134) (by omega) (by omega), ho (X + 131) (by omega) (by omega), ho (X + 132) (by omega) (by omega), hL (X + 133) (by omega)]
    have := x2 j hj
    refine ⟨this.1, fun q => ?_⟩
    obtain ⟨y1, y2, y3, y4⟩ := this.2 q
    refine ⟨y1, y2, y3, fun p hp => ?_⟩
    rw [hr.2.2.2.2, if_neg (by omega)]
    exact y4 p hp
theorem k_begin (a : Int32) (h0 : mm_K μ b = (19, L) ∧ mm_I μ b = xs ∧ b < X) (h : IC X i c s μ) (hR : IR X s μ) : ∃ r μ1 μ2, f_X10_begin X a μ = some (r, μ1) ∧ f_X11_begin_ (X + 90) a μ1 = some (r, μ2) ∧ Inv b L xs X (i + 1) μ2 ∧ (mm_K μ1 b = (19, L) ∧ mm_I μ1 b = xs) := by
  have h1 := h.1.1
  by_cases e : (0 : Int32) ≤ a
  · have e' := e
    rw [ge0] at e'
    obtain ⟨k, hk, rfl⟩ : ∃ k, k < 2 ^ 31 ∧ a = nI k := by
      refine ⟨a.toInt.toNat, ?_, ?_⟩
      · have := Int32.toInt_lt a; omega
      · apply Int32.toInt_inj.mp
        have := Int32.toInt_lt a
        rw [nI_toInt (by omega)]; omega
    have hx := c_begin hk h
    have hCI := IC_bg hk h
    have hCh : ChC X μ (m_bg X (nI k) (nI (cr s.1 (rwT s.1 s.2.1))) μ) := by
      refine ⟨fun q hq => m_bg_o (by unfold inM at hq; omega) (by unfold inM at hq; omega), fun q _ => by rw [m_bg_L], fun q hq => ⟨m_bg_o (by omega) (by omega), by rw [tl_K (m_bg_t _ _ _ _)]⟩⟩
    exact both h0 hR hx hCI hCh (fun hν => ⟨_, r_begin hk hν, IR_bg hν, fun q hq => m_bgR_o (by unfold inM at hq; omega) (by unfold inM at hq; omega), fun q hq => m_bgR_L (by unfold inM at hq; omega), m_bgR_P _ _ _ _, m_bgR_t _ _ _ _⟩)
  · refine both h0 hR (r := -2) (μ1 := μ) ?_ (IC_up h) (ChC_r _ _) (fun hν => ⟨_, ?_, hν, ChM_r _ _⟩)
    · unfold f_X10_begin
      rw [if_pos (by rw [mk_0 h1]), if_neg e]
    · unfold f_X11_begin_
      rw [if_pos (by rw [mk_90 hν.1]), if_neg e]
/-- a run copied -/
def m_cp (a a' : Nat) (μ : Mm) : Mm := ms_A (ms_I (ms_I (ms_I (ms_I μ a 1 (mm_I μ a' 1)) a 2 (mm_I μ a' 2)) a 3 (mm_I μ a' 3)) a 4 (mm_I μ a' 4)) (a + 1) (fun j => if j < 12 then mm_I μ (a' + 1) j else mm_I μ (a + 1) j)
theorem e_copy {a a' : Nat} {μ : Mm} (hK : mm_K μ a = (4, 0)) (hP : mm_P μ a 0 = some (a + 1)) (hK1 : mm_K μ (a + 1) = (20, 12)) (hK' : mm_K μ a' = (4, 0)) (hP' : mm_P μ a' 0 = some (a' + 1)) (hK1' : mm_K μ (a' + 1) = (20, 12)) (hne : a ≠ a') (h2 : a + 1 ≠ a') (h3 : a ≠ a' + 1) (hz : mm_I μ a' 1 = 0 ∨ mm_I μ a' 1 = 1) : f_X3_copyFrom a a' μ = some (m_cp a a' μ) := by
  unfold f_X3_copyFrom
  have n1 : ¬ a' = a := fun e => hne e.symm
  have n2 : ¬ a' = a + 1 := fun e => h2 e.symm
  have n3 : ¬ a' + 1 = a := fun e => h3 e.symm
  have hK4 : (mm_K μ a).1 = 4 := by rw [hK]
  have hK4' : (mm_K μ a').1 = 4 := by rw [hK']
  rw [if_pos hK4, e_gfI hK4', ob, e_pfZ hK4 hz, ob]
  simp only [e_gfI, e_pfI, kI, hK4, hK4', ob, rI, n1, false_and, if_false]
  generalize hν : ms_I (ms_I (ms_I (ms_I μ a 1 (mm_I μ a' 1)) a 2 (mm_I μ a' 2)) a 3 (mm_I μ a' 3)) a 4 (mm_I μ a' 4) = ν
  have k1 : mm_K ν = mm_K μ := by rw [← hν]; rfl
  have k2 : mm_P ν = mm_P μ := by rw [← hν]; rfl
  have o : ∀ q, q ≠ a → mm_I ν q = mm_I μ q := fun q hq => by rw [← hν, iI, if_neg hq, iI, if_neg hq, iI, if_neg hq, iI, if_neg hq]
  rw [e_gfP (by rw [k1, hK']) (by rw [k2]; exact hP'), ob, e_gfP (by rw [k1, hK]) (by rw [k2]; exact hP), ob]
  have hc : cp_I (a' + 1) (0 : Int32) (a + 1) (0 : Int32) (12 : Int32) ν = some (ms_A ν (a + 1) (va_cpy (mm_I ν (a' + 1)) (mm_I ν (a + 1)) 0 0 12)) := by
    unfold cp_I
    rw [k1, hK1, hK1', if_pos (by refine ⟨rfl, rfl, ?_⟩; decide)]
    rfl
  rw [hc, ob]
  unfold m_cp
  rw [hν]
  congr 2
  funext j
  rw [o (a' + 1) n3, o (a + 1) (by omega)]
  by_cases hj : j < 12
  · rw [if_pos hj, pk_cpy_in (by omega) (by omega), Nat.zero_add, Nat.sub_zero]
  · rw [if_neg hj, pk_cpy_out (by omega)]
theorem m_cp_o {a a' q : Nat} {μ : Mm} (h1 : q ≠ a) (h2 : q ≠ a + 1) : mm_I (m_cp a a' μ) q = mm_I μ q := by
  unfold m_cp
  rw [rA, if_neg h2, iI, if_neg h1, iI, if_neg h1, iI, if_neg h1, iI, if_neg h1]
theorem m_cp_r {a a' : Nat} {T : Tn} {r : Rs} {μ : Mm} (h : Cr1 a' T r μ) : Cr1 a T r (m_cp a a' μ) := by
  have hf : ∀ k, k = 1 ∨ k = 2 ∨ k = 3 ∨ k = 4 → mm_I (m_cp a a' μ) a k = mm_I μ a' k := by
    intro k hk
    unfold m_cp
    rw [rA, if_neg (by omega)]
    simp only [rI]
    rcases hk with rfl | rfl | rfl | rfl <;> simp
  unfold Cr1 at h ⊢
  rw [hf 1 (by omega), hf 2 (by omega), hf 3 (by omega), hf 4 (by omega)]
  refine ⟨h.1, fun q => ?_⟩
  obtain ⟨h1, h2, h3, h4⟩ := h.2 q
  refine ⟨h1, h2, h3, fun f hf => ?_⟩
  unfold m_cp
  rw [rA, if_pos rfl, if_pos hf]
  exact h4 f hf
theorem slot_a {μ : Mm} (h : Sh X μ) : ∀ j, j < 3 → mm_P μ (X + 15) j = some (X + 84 + 2 * j) ∧ mm_K μ (X + 84 + 2 * j) = (4, 0) ∧ mm_P μ (X + 84 + 2 * j) 0 = some (X + 84 + 2 * j + 1) ∧ mm_K μ (X + 84 + 2 * j + 1) = (20, 12)
  | 0, _ => ⟨mp_15_0 h, mk_84 h, mp_84_0 h, mk_85 h⟩
  | 1, _ => ⟨mp_15_1 h, mk_86 h, mp_86_0 h, mk_87 h⟩
  | 2, _ => ⟨mp_15_2 h, mk_88 h, mp_88_0 h, mk_89 h⟩
  | n + 3, h => absurd h (by omega)
theorem cr_j {T : Tn} {R : Nat → Rs} {μ : Mm} (h : Cr X T R μ) : ∀ j, j < 3 → Cr1 (X + 84 + 2 * j) T (R (j + 1)) μ
  | 0, _ => h.2.1
  | 1, _ => h.2.2.1
  | 2, _ => h.2.2.2
  | n + 3, h => absurd h (by omega)
theorem cr_mk {T : Tn} {R : Nat → Rs} {μ : Mm} (h : Cr1 (X + 13) T (R 0) μ) (hj : ∀ j, j < 3 → Cr1 (X + 84 + 2 * j) T (R (j + 1)) μ) : Cr X T R μ := ⟨h, hj 0 (by decide), hj 1 (by decide), hj 2 (by decide)⟩
theorem nI_tn (x : Bool) : nI x.toNat = 0 ∨ nI x.toNat = 1 := by
  cases x
  · exact Or.inl rfl
  · exact Or.inr rfl
def m_kpR (X j : Nat) (μ : Mm) : Mm := ms_A (ms_L (ms_I (ms_I (ms_I μ (X + 134) j 1) (X + 131) j (mm_I μ (X + 90) 65)) (X + 132) j (mm_I μ (X + 90) 66)) (X + 133) j (mm_L μ (X + 90) 67)) (X + 130) (fun q => if 8 * (j + 1) ≤ q ∧ q < 8 * (j + 1) + 8 then mm_I μ (X + 130) (q - 8 * (j + 1)) else mm_I μ (X + 130) q)
theorem k_keep (a : Int32) (h0 : mm_K μ b = (19, L) ∧ mm_I μ b = xs ∧ b < X) (h : IC X i c s μ) (hR : IR X s μ) : ∃ r μ1 μ2, f_X10_keep X a μ = some (r, μ1) ∧ f_X11_keep (X + 90) a μ1 = some (r, μ2) ∧ Inv b L xs X (i + 1) μ2 ∧ (mm_K μ1 b = (19, L) ∧ mm_I μ1 b = xs) := by
  have h1 := h.1.1
  have hrn := h.2.2.2.2.2.1
  have e10 : f_X10_keep X a μ = if inR a 3 then (if (s.2.2.2.2.2.2 0).1 = false then some (-4, μ) else (ga_P 24 (X + 15) a μ).bind fun x34 => (f_X3_copyFrom x34 (X + 13) μ).bind fun x39 => (gf_P 11 6 X x39).bind fun x43 => (gf_I 4 4 x43 x39).bind fun x46 => some (x46, x39)) else some (-2, μ) := by
    unfold f_X10_keep
    rw [if_pos (by rw [mk_0 h1]), rp_0_7 h1, ob, ln_15 h1, ob, two_ends3 (by decide), rp_0_6 h1, ob, rf_13 h1, ob, hrn.2.1.1]
    simp only [nI_b0, ob]
  have e11 : ∀ ν, IR X s ν → f_X11_keep (X + 90) a ν = if inR a 3 then (if (s.2.2.2.2.2.2 0).1 = false then some (-4, ν) else f_X11_keep (X + 90) a ν) else some (-2, ν) := by
    intro ν hν
    by_cases c1 : inR a 3
    · rw [if_pos c1]
      cases e : (s.2.2.2.2.2.2 0).1 with
      | false =>
        rw [if_pos rfl]
        unfold f_X11_keep
        rw [if_pos (by rw [mk_90 hν.1]), r_isSlot, ob, bz_if, if_pos c1, rf_90 hν.1, ob, hν.2.2.2.2.2.1.1, e, if_pos (show nI false.toNat = 0 from rfl)]
      | true => rw [if_neg (by decide)]
    · rw [if_neg c1]
      unfold f_X11_keep
      rw [if_pos (by rw [mk_90 hν.1]), r_isSlot, ob, bz_if, if_neg c1]
  by_cases c1 : inR a 3
  · rw [if_pos c1] at e10
    cases e : (s.2.2.2.2.2.2 0).1 with
    | false =>
      rw [e, if_pos rfl] at e10
      exact both h0 hR e10 (IC_up h) (ChC_r _ _) (fun hν => ⟨_, by rw [e11 _ hν, if_pos c1, e, if_pos rfl], hν, ChM_r _ _⟩)
    | true =>
      rw [e, if_neg (by decide)] at e10
      obtain ⟨j, hj, rfl⟩ := inR_ex c1 (by decide)
      obtain ⟨x1, x2, x3, x4⟩ := slot_a h1 j hj
      have hx : f_X10_keep X (nI j) μ = some (nI (s.2.2.2.2.2.2 0).2.2.2.1, m_cp (X + 84 + 2 * j) (X + 13) μ) := by
        rw [e10, e_gaP (mk_15 h1) hj (by decide) x1, ob, e_copy x2 x3 x4 (mk_13 h1) (mp_13_0 h1) (mk_14 h1) (by omega) (by omega) (by omega) (by rw [hrn.2.1.1]; exact nI_tn _), ob]
        have hS : Sh X (m_cp (X + 84 + 2 * j) (X + 13) μ) := h1
        rw [rp_0_6 hS, ob, rf_13 hS, ob, m_cp_o (by omega) (by omega), (hrn.2.1.2 e).2.2.1]
      refine both (s' := (s.1, s.2.1, s.2.2.1, s.2.2.2.1, s.2.2.2.2.1, s.2.2.2.2.2.1, u1 s.2.2.2.2.2.2 (j + 1) (s.2.2.2.2.2.2 0))) h0 hR hx (IC_rn (by rfl) (by rfl) ?_ (by rfl) (u1R_ok (fun j => okRs_up (hrn.1 j)) (okRs_up (hrn.1 0))) ?_ h) ?_ (fun hν => ⟨m_kpR X j (m_cp (X + 84 + 2 * j) (X + 13) μ), ?_, ?_, ?_⟩)
      · intro q _ g1 g2 g3
        exact m_cp_o (by omega) (by omega)
      · refine cr_mk ?_ (fun k hk => ?_)
        · rw [u1_n _ _ (by omega)]
          exact cr1_x (m_cp_o (by omega) (by omega)) (m_cp_o (by omega) (by omega)) hrn.2.1
        · by_cases ek : k = j
          · subst ek
            rw [u1_s]
            exact m_cp_r hrn.2.1
          · rw [u1_n _ _ (by omega)]
            exact cr1_x (m_cp_o (by omega) (by omega)) (m_cp_o (by omega) (by omega)) (cr_j hrn.2 k hk)
      · exact ⟨fun q hq => m_cp_o (by unfold inM at hq; omega) (by unfold inM at hq; omega), fun _ _ => rfl, fun q hq => ⟨m_cp_o (by omega) (by omega), rfl⟩⟩
      · have h9 := hν.1
        have hrr := hν.2.2.2.2.2.1
        generalize m_cp (X + 84 + 2 * j) (X + 13) μ = ν at h9 hrr
        unfold f_X11_keep
        rw [if_pos (by rw [mk_90 h9]), r_isSlot, ob, bz_if, if_pos c1, rf_90 h9, ob, hrr.1, e, if_neg (by decide), rp_90_72 h9, ob, e_paZ (mk_134 h9) hj (by decide) (Or.inr rfl), ob]
        simp (maxDischargeDepth := 30) only [rp_90_69, rp_90_70, rp_90_71, rf_90, rl_90, wa_131, wa_132, wa_133, shI', shL', h9, hj, ob]
        have r1 : mm_I (ms_I ν (X + 134) j 1) (X + 90) 65 = mm_I ν (X + 90) 65 := by rw [iI, if_neg (by omega)]
        have r2 : mm_I (ms_I (ms_I ν (X + 134) j 1) (X + 131) j (mm_I ν (X + 90) 65)) (X + 90) 66 = mm_I ν (X + 90) 66 := by rw [iI, if_neg (by omega), iI, if_neg (by omega)]
        have r3 : mm_L (ms_I (ms_I (ms_I ν (X + 134) j 1) (X + 131) j (mm_I ν (X + 90) 65)) (X + 132) j (mm_I ν (X + 90) 66)) (X + 90) 67 = mm_L ν (X + 90) 67 := rfl
        rw [r1, r2, r3]
        unfold m_kpR
        have hr130 : mm_I ν (X + 130) = mm_I (ms_L (ms_I (ms_I (ms_I ν (X + 134) j 1) (X + 131) j (mm_I ν (X + 90) 65)) (X + 132) j (mm_I ν (X + 90) 66)) (X + 133) j (mm_L ν (X + 90) 67)) (X + 130) := by rw [iL, iI, if_neg (by omega), iI, if_neg (by omega), iI, if_neg (by omega)]
        have hr66 : mm_I ν (X + 90) = mm_I (ms_L (ms_I (ms_I (ms_I ν (X + 134) j 1) (X + 131) j (mm_I ν (X + 90) 65)) (X + 132) j (mm_I ν (X + 90) 66)) (X + 133) j (mm_L ν (X + 90) 67)) (X + 90) := by rw [iL, iI, if_neg (by omega), iI, if_neg (by omega), iI, if_neg (by omega)]
        have v66 := (hrr.2 e).2.2.1
        rw [hr66] at v66
        rw [hr130]
        have hS : Sh X (ms_L (ms_I (ms_I (ms_I ν (X + 134) j 1) (X + 131) j (mm_I ν (X + 90) 65)) (X + 132) j (mm_I ν (X + 90) 66)) (X + 133) j (mm_L ν (X + 90) 67)) := h9
        generalize ms_L (ms_I (ms_I (ms_I ν (X + 134) j 1) (X + 131) j (mm_I ν (X + 90) 65)) (X + 132) j (mm_I ν (X + 90) 66)) (X + 133) j (mm_L ν (X + 90) 67) = π at hS v66
        refine (whl_b 8 (fun x => (nI x, ms_A π (X + 130) (fun q => if 8 * (j + 1) ≤ q ∧ q < 8 * (j + 1) + x then mm_I π (X + 130) (q - 8 * (j + 1)) else mm_I π (X + 130) q))) (b := ms_A π (X + 130) (fun q => if 8 * (j + 1) ≤ q ∧ q < 8 * (j + 1) + 8 then mm_I π (X + 130) (q - 8 * (j + 1)) else mm_I π (X + 130) q)) ?_ (fun x hx => ?_) ?_).trans ?_
        · have : (fun q => if 8 * (j + 1) ≤ q ∧ q < 8 * (j + 1) + 0 then mm_I π (X + 130) (q - 8 * (j + 1)) else mm_I π (X + 130) q) = mm_I π (X + 130) := by funext q; rw [if_neg (by omega)]
          rw [this, sA_id]; rfl
        · have hS2 : Sh X (ms_A π (X + 130) (fun q => if 8 * (j + 1) ≤ q ∧ q < 8 * (j + 1) + x then mm_I π (X + 130) (q - 8 * (j + 1)) else mm_I π (X + 130) q)) := hS
          simp only [f_X11_keep_L59]
          rw [if_neg (by rw [show (8 : Int32) = nI 8 from rfl, nI_le_i (by omega) (by omega)]; omega), rp_90_68 hS2, ob, ob, ra_130 hS2 (by omega), ob, rA, if_pos rfl, if_neg (by omega), nI_1, show (8 : Int32) = nI 8 from rfl, pk_mul, nI_add, wa_130 hS2 _ (by omega), ob, ob, sA_I, nI_1]
          congr 4
          funext q
          by_cases eq : q = 8 * (j + 1) + x
          · subst eq; rw [u1_s, if_pos (by omega)]; congr 1; omega
          · rw [u1_n _ _ eq]
            by_cases e2 : 8 * (j + 1) ≤ q ∧ q < 8 * (j + 1) + x
            · rw [if_pos e2, if_pos (by omega)]
            · rw [if_neg e2, if_neg (by omega)]
        · simp only [f_X11_keep_L59]
          rw [if_pos (by decide)]
        · unfold f_X11_keep_J90
          have hS2 : ∀ g, Sh X (ms_A π (X + 130) g) := fun _ => hS
          rw [rf_90 (hS2 _), ob, rA, if_neg (by omega), v66]
      · refine IR_rn hν.1 (fun k _ j2 j3 j4 => ?_) (fun q q1 q2 q3 q4 => ?_) (fun q _ q2 q3 => ?_) ?_ hν
        · unfold m_kpR
          rw [rA, if_neg (by omega), iL, iI, if_neg (by omega), iI, if_neg (by omega), iI, if_neg (by omega)]
        · unfold m_kpR
          rw [rA, if_neg (by omega), iL, iI, if_neg (by omega), iI, if_neg (by omega), iI, if_neg (by omega)]
        · show mm_L (ms_L _ _ _ _) q = _
          rw [lL, if_neg q3]; rfl
        · obtain ⟨y1, y2⟩ := hν.2.2.2.2.2
          generalize m_cp (X + 84 + 2 * j) (X + 13) μ = ν at y1 y2
          have o90 : mm_I (m_kpR X j ν) (X + 90) = mm_I ν (X + 90) := by unfold m_kpR; rw [rA, if_neg (by omega), iL, iI, if_neg (by omega), iI, if_neg (by omega), iI, if_neg (by omega)]
          have oL : ∀ q k, mm_L (m_kpR X j ν) q k = if q = X + 133 ∧ k = j then mm_L ν (X + 90) 67 else mm_L ν q k := fun q k => by show mm_L (ms_L _ _ _ _) q k = _; rw [rL]; rfl
          have o134 : ∀ k, mm_I (m_kpR X j ν) (X + 134) k = if k = j then 1 else mm_I ν (X + 134) k := fun k => by unfold m_kpR; rw [rA, if_neg (by omega), iL]; simp [rI]
          have o131 : ∀ k, mm_I (m_kpR X j ν) (X + 131) k = if k = j then mm_I ν (X + 90) 65 else mm_I ν (X + 131) k := fun k => by unfold m_kpR; rw [rA, if_neg (by omega), iL]; simp [rI]
          have o132 : ∀ k, mm_I (m_kpR X j ν) (X + 132) k = if k = j then mm_I ν (X + 90) 66 else mm_I ν (X + 132) k := fun k => by unfold m_kpR; rw [rA, if_neg (by omega), iL]; simp [rI]
          have o130 : ∀ q, mm_I (m_kpR X j ν) (X + 130) q = if 8 * (j + 1) ≤ q ∧ q < 8 * (j + 1) + 8 then mm_I ν (X + 130) (q - 8 * (j + 1)) else mm_I ν (X + 130) q := fun q => by unfold m_kpR; rw [rA, if_pos rfl]
          refine ⟨?_, fun k hk => ?_⟩
          · rw [u1_n _ _ (by omega), o90, oL, if_neg (by omega)]
            refine ⟨y1.1, fun q => ?_⟩
            obtain ⟨z1, z2, z3, z4⟩ := y1.2 q
            refine ⟨z1, z2, z3, fun p hp => ?_⟩
            rw [o130, if_neg (by omega)]
            exact z4 p hp
          · rw [o134, o131, o132, oL]
            by_cases ek : k = j
            · subst ek
              rw [if_pos rfl, if_pos rfl, if_pos rfl, if_pos ⟨rfl, rfl⟩, u1_s, e]
              refine ⟨rfl, fun q => ?_⟩
              obtain ⟨z1, z2, z3, z4⟩ := y1.2 e
              refine ⟨z1, z2, z3, fun p hp => ?_⟩
              rw [o130, if_pos (by omega), show 8 * (k + 1) + p - 8 * (k + 1) = p by omega]
              exact z4 p hp
            · rw [if_neg ek, if_neg ek, if_neg ek, if_neg (fun q => ek q.2), u1_n _ _ (by omega)]
              refine ⟨(y2 k hk).1, fun q => ?_⟩
              obtain ⟨z1, z2, z3, z4⟩ := (y2 k hk).2 q
              refine ⟨z1, z2, z3, fun p hp => ?_⟩
              rw [o130, if_neg (by omega)]
              exact z4 p hp
      · refine ⟨fun q hq => ?_, fun q hq => ?_, rfl, rfl⟩
        · unfold inM at hq
          unfold m_kpR
          rw [rA, if_neg (by omega), iL, iI, if_neg (by omega), iI, if_neg (by omega), iI, if_neg (by omega)]
        · unfold inM at hq
          show mm_L (ms_L _ _ _ _) q = _
          rw [lL, if_neg (by omega)]; rfl
  · rw [if_neg c1] at e10
    exact both h0 hR e10 (IC_up h) (ChC_r _ _) (fun hν => ⟨_, by rw [e11 _ hν, if_neg c1], hν, ChM_r _ _⟩)
end CALLS
