/-! ===== go: the call ===== -/
theorem fr_go {X q : Nat} {μ : Mm} (h : Sh X μ) (h1 : q ≠ X + 58) (h2 : q ≠ X + 62) (h3 : q ≠ X + 63) (h4 : q ≠ X + 13) (h5 : q ≠ X + 14) : ∀ p ∈ ([[3], [3, 3], [3, 4], [6], [6, 0]] : List (List Nat)), ¬ rch (mm_P μ) X p q := by
  intro p hp hr
  simp only [List.mem_cons, List.not_mem_nil, or_false] at hp
  rcases hp with rfl | rfl | rfl | rfl | rfl
  · have e : X + 58 = q := rch_1 (mp_0_3 h) (by decide) hr
    exact h1 e.symm
  · have e : X + 62 = q := rch_1 (mp_58_3 h) (by decide) (rch_1 (mp_0_3 h) (by decide) hr)
    exact h2 e.symm
  · have e : X + 63 = q := rch_1 (mp_58_4 h) (by decide) (rch_1 (mp_0_3 h) (by decide) hr)
    exact h3 e.symm
  · have e : X + 13 = q := rch_1 (mp_0_6 h) (by decide) hr
    exact h4 e.symm
  · have e : X + 14 = q := rch_1 (mp_13_0 h) (by decide) (rch_1 (mp_0_6 h) (by decide) hr)
    exact h5 e.symm
section CALLS
variable {b L : Nat} {xs : Nat → Int32} {X i c : Nat} {s : Sv} {μ : Mm}
def m_goR (X : Nat) (κ : Nat → Nat → Bool) (o a : Nat → Int32) (v : Int64) (ν : Mm) : Mm := ms_A (m_kn X (κ, o) a (ms_L ν (X + 90) 67 v)) (X + 130) (fun p => if p < 8 then nI (bm (κ p) 12) else mm_I ν (X + 130) p)
theorem m_goR_P (X : Nat) (κ : Nat → Nat → Bool) (o a : Nat → Int32) (v : Int64) (ν : Mm) : mm_P (m_goR X κ o a v ν) = mm_P ν := rfl
theorem m_goR_t (X : Nat) (κ : Nat → Nat → Bool) (o a : Nat → Int32) (v : Int64) (ν : Mm) : tl (m_goR X κ o a v ν) = tl ν := rfl
theorem m_goR_o {X q : Nat} {κ : Nat → Nat → Bool} {o a : Nat → Int32} {v : Int64} {ν : Mm} (h1 : q ≠ X + 90) (h2 : q ≠ X + 111) (h3 : q ≠ X + 112) (h4 : q ≠ X + 130) : mm_I (m_goR X κ o a v ν) q = mm_I ν q := by
  unfold m_goR
  rw [rA, if_neg h4, kn_o h1 h2 h3]
  rfl
theorem m_goR_90 {X : Nat} {κ : Nat → Nat → Bool} {o a : Nat → Int32} {v : Int64} {ν : Mm} : mm_I (m_goR X κ o a v ν) (X + 90) = o := by
  unfold m_goR
  rw [rA, if_neg (by omega), kn_90]
theorem m_goR_130 {X : Nat} {κ : Nat → Nat → Bool} {o a : Nat → Int32} {v : Int64} {ν : Mm} (p : Nat) : mm_I (m_goR X κ o a v ν) (X + 130) p = if p < 8 then nI (bm (κ p) 12) else mm_I ν (X + 130) p := by
  unfold m_goR
  rw [rA, if_pos rfl]
theorem m_goR_L {X q : Nat} {κ : Nat → Nat → Bool} {o a : Nat → Int32} {v : Int64} {ν : Mm} (h : q ≠ X + 90) : mm_L (m_goR X κ o a v ν) q = mm_L ν q := by
  show mm_L (ms_L ν (X + 90) 67 v) q = _
  rw [lL, if_neg h]
theorem m_goR_v {X : Nat} {κ : Nat → Nat → Bool} {o a : Nat → Int32} {v : Int64} {ν : Mm} : mm_L (m_goR X κ o a v ν) (X + 90) 67 = v := by
  show mm_L (ms_L ν (X + 90) 67 v) (X + 90) 67 = _
  rw [rL, if_pos ⟨rfl, rfl⟩]
theorem sL_self {ν : Mm} {a k : Nat} {v : Int64} (h : mm_L ν a k = v) : ms_L ν a k v = ν := by
  rw [sL_B, ← h]
  have : u1 (mm_L ν a) k (mm_L ν a k) = mm_L ν a := by
    funext j
    by_cases ek : j = k
    · rw [ek, u1_s]
    · rw [u1_n _ _ ek]
  rw [this, sB_id]
theorem r_go {n B : Nat} {ν : Mm} (hν : IR X s ν) (ok : OkT s.1) (hr : OkG s.1 B (s.2.2.2.2.2.2 0)) (hB : B + 200 < 2 ^ 30) (hn : n ≤ 200) : ∃ o a, f_X11_go (X + 90) (nI n) ν = some (nI ((s.2.2.2.2.2.2 0).2.2.2.1 + n), m_goR X (rdays s.1 (s.2.2.2.2.2.2 0) n).2.2.2.2 o a (lN (rdays s.1 (s.2.2.2.2.2.2 0) n).2.2.1) ν) ∧ Og (rdays s.1 (s.2.2.2.2.2.2 0) n) o (mm_I ν (X + 90)) := by
  have h9 := hν.1
  obtain ⟨y1, y2⟩ := hν.2.2.2.2.2.1
  have e := hr.1
  obtain ⟨z1, z2, z3, z4⟩ := y2 e
  have hself : ms_L ν (X + 90) 67 (lN (s.2.2.2.2.2.2 0).2.2.1) = ν := sL_self z2
  have l1 : whl (f_X11_go_L26 (X + 90) (nI n)) ((0 : Int32), ν) = some (m_kn X ((s.2.2.2.2.2.2 0).2.2.2.2, mm_I ν (X + 90)) (mm_I ν (X + 112)) ν) := by
    refine whl_c 8 (fun x => (nI x, ms_A ν (X + 111) (fun p => if p < x then mm_I ν (X + 130) p else mm_I ν (X + 111) p))) ?_ (fun x hx => ?_) ?_
    · rw [fill_0, sA_id]; rfl
    · have hS2 : Sh X (ms_A ν (X + 111) (fun p => if p < x then mm_I ν (X + 130) p else mm_I ν (X + 111) p)) := h9
      simp only [f_X11_go_L26]
      rw [if_neg (by rw [show (8 : Int32) = nI 8 from rfl, nI_le_i (by omega) (by omega)]; omega), rp_90_35 hS2, ob, rp_90_68 hS2, ob, ra_130 hS2 (by omega), ob, rA, if_neg (by omega), wa_111 hS2 _ hx, ob, ob, sA_I, nI_1, u1_fill (fun p => mm_I ν (X + 130) p)]
    · simp only [f_X11_go_L26]
      rw [if_pos (by decide)]
      unfold m_kn
      rw [sA_id]
      have e1 : k_row X (s.2.2.2.2.2.2 0).2.2.2.2 ν = fun p => if p < 8 then mm_I ν (X + 130) p else mm_I ν (X + 111) p := by
        funext p
        unfold k_row
        by_cases hp : p < 8
        · rw [if_pos hp, if_pos hp, z4 p hp]
        · rw [if_neg hp, if_neg hp]
      show some (Sum.inr _) = some (Sum.inr (ms_A (ms_A ν (X + 111) (k_row X (s.2.2.2.2.2.2 0).2.2.2.2 ν)) (X + 90) (mm_I ν (X + 90))))
      rw [e1]
      have e2 := sA_id (ms_A ν (X + 111) (fun p => if p < 8 then mm_I ν (X + 130) p else mm_I ν (X + 111) p)) (X + 90)
      rw [rA, if_neg (by omega)] at e2
      rw [e2]
  have key := whl_i (body := f_X11_go_L52 (X + 90) (nI n)) n (fun j (st : Int32 × Mm) => st.1 = nI j ∧ ∃ o a, st.2 = m_kn X ((rdays s.1 (s.2.2.2.2.2.2 0) j).2.2.2.2, o) a (ms_L ν (X + 90) 67 (lN (rdays s.1 (s.2.2.2.2.2.2 0) j).2.2.1)) ∧ Og (rdays s.1 (s.2.2.2.2.2.2 0) j) o (mm_I ν (X + 90))) (Q := fun π => ∃ o a, π = m_kn X ((rdays s.1 (s.2.2.2.2.2.2 0) n).2.2.2.2, o) a (ms_L ν (X + 90) 67 (lN (rdays s.1 (s.2.2.2.2.2.2 0) n).2.2.1)) ∧ Og (rdays s.1 (s.2.2.2.2.2.2 0) n) o (mm_I ν (X + 90))) (s0 := ((0 : Int32), m_kn X ((s.2.2.2.2.2.2 0).2.2.2.2, mm_I ν (X + 90)) (mm_I ν (X + 112)) ν)) ⟨rfl, mm_I ν (X + 90), mm_I ν (X + 112), by show _ = m_kn X _ _ (ms_L ν (X + 90) 67 (lN (s.2.2.2.2.2.2 0).2.2.1)); rw [hself]; rfl, z1, z3, fun _ _ _ _ => rfl⟩ ?_ ?_
  · obtain ⟨π, w1, o, a, w2, w3⟩ := key
    refine ⟨o, a, ?_, w3⟩
    have h66 : o 66 = nI ((s.2.2.2.2.2.2 0).2.2.2.1 + n) := by rw [w3.2.1, rdays_ps]
    unfold f_X11_go f_X11_go_J50 f_X11_go_J67
    rw [if_pos (by rw [mk_90 h9]), show (200 : Int32) = nI 200 from rfl, e_inK (by decide), ob, bz_if, if_pos (inR_nI (by omega) (by decide)), rf_90 h9, ob, y1, e, if_neg (by decide), l1, ob, w1, ob, w2]
    have hS : Sh X (m_kn X ((rdays s.1 (s.2.2.2.2.2.2 0) n).2.2.2.2, o) a (ms_L ν (X + 90) 67 (lN (rdays s.1 (s.2.2.2.2.2.2 0) n).2.2.1))) := h9
    have hk : ∀ p, p < 8 → mm_I (m_kn X ((rdays s.1 (s.2.2.2.2.2.2 0) n).2.2.2.2, o) a (ms_L ν (X + 90) 67 (lN (rdays s.1 (s.2.2.2.2.2.2 0) n).2.2.1))) (X + 111) p = nI (bm ((rdays s.1 (s.2.2.2.2.2.2 0) n).2.2.2.2 p) 12) := fun p hp => kn_k hp
    have h130 : mm_I (m_kn X ((rdays s.1 (s.2.2.2.2.2.2 0) n).2.2.2.2, o) a (ms_L ν (X + 90) 67 (lN (rdays s.1 (s.2.2.2.2.2.2 0) n).2.2.1))) (X + 130) = mm_I ν (X + 130) := by rw [kn_o (by omega) (by omega) (by omega)]; rfl
    have h90 : mm_I (m_kn X ((rdays s.1 (s.2.2.2.2.2.2 0) n).2.2.2.2, o) a (ms_L ν (X + 90) 67 (lN (rdays s.1 (s.2.2.2.2.2.2 0) n).2.2.1))) (X + 90) = o := kn_90 _ _ _ _
    unfold m_goR
    rw [← h130]
    generalize m_kn X ((rdays s.1 (s.2.2.2.2.2.2 0) n).2.2.2.2, o) a (ms_L ν (X + 90) 67 (lN (rdays s.1 (s.2.2.2.2.2.2 0) n).2.2.1)) = ρ at hS hk h90 ⊢
    refine (whl_b 8 (fun x => (nI x, ms_A ρ (X + 130) (fun p => if p < x then nI (bm ((rdays s.1 (s.2.2.2.2.2.2 0) n).2.2.2.2 p) 12) else mm_I ρ (X + 130) p))) (b := ms_A ρ (X + 130) (fun p => if p < 8 then nI (bm ((rdays s.1 (s.2.2.2.2.2.2 0) n).2.2.2.2 p) 12) else mm_I ρ (X + 130) p)) ?_ (fun x hx => ?_) ?_).trans ?_
    · rw [fill_0, sA_id]; rfl
    · have hS2 : Sh X (ms_A ρ (X + 130) (fun p => if p < x then nI (bm ((rdays s.1 (s.2.2.2.2.2.2 0) n).2.2.2.2 p) 12) else mm_I ρ (X + 130) p)) := hS
      simp only [f_X11_go_L69]
      rw [if_neg (by rw [show (8 : Int32) = nI 8 from rfl, nI_le_i (by omega) (by omega)]; omega), rp_90_68 hS2, ob, rp_90_35 hS2, ob, ra_111 hS2 hx, ob, rA, if_neg (by omega), hk x hx, wa_130 hS2 _ (by omega), ob, ob, sA_I, nI_1, u1_fill (fun p => nI (bm ((rdays s.1 (s.2.2.2.2.2.2 0) n).2.2.2.2 p) 12))]
    · simp only [f_X11_go_L69]
      rw [if_pos (by decide)]
    · unfold f_X11_go_J93
      have hS2 : ∀ g, Sh X (ms_A ρ (X + 130) g) := fun _ => hS
      rw [rf_90 (hS2 _), ob, rA, if_neg (by omega), h90, h66]
  · rintro j ⟨s1, π⟩ hj ⟨e1, o, a, e2, e3⟩
    replace e1 : s1 = nI j := e1
    replace e2 : π = _ := e2
    subst e1; subst e2
    obtain ⟨o', a', w1, w2⟩ := r_day (a := a) hν ok (rdays_ok ok hr j) (by omega) rfl e3
    simp only [f_X11_go_L52]
    rw [if_neg (by rw [nI_le_i (by omega) (by omega)]; omega), w1, ob, ob, nI_1]
    exact ⟨_, rfl, rfl, o', a', rfl, w2⟩
  · rintro ⟨s1, π⟩ ⟨e1, o, a, e2, e3⟩
    replace e1 : s1 = nI n := e1
    subst e1
    refine ⟨π, ?_, o, a, e2, e3⟩
    simp only [f_X11_go_L52]
    rw [if_pos (nI_le (Nat.le_refl _) (by omega))]
theorem IR_go {r : Rs} {o a : Nat → Int32} {ν : Mm} (hν : IR X s ν) (e : (s.2.2.2.2.2.2 0).1 = true) (hr1 : r.1 = true) (ho : Og r o (mm_I ν (X + 90))) : IR X (s.1, s.2.1, s.2.2.1, s.2.2.2.1, s.2.2.2.2.1, s.2.2.2.2.2.1, u1 s.2.2.2.2.2.2 0 r) (m_goR X r.2.2.2.2 o a (lN r.2.2.1) ν) := by
  obtain ⟨p1, p2, p3⟩ := ho
  have h90 := m_goR_90 (X := X) (κ := r.2.2.2.2) (o := o) (a := a) (v := lN r.2.2.1) (ν := ν)
  have h130 := m_goR_130 (X := X) (κ := r.2.2.2.2) (o := o) (a := a) (v := lN r.2.2.1) (ν := ν)
  have ho := fun q => m_goR_o (X := X) (q := q) (κ := r.2.2.2.2) (o := o) (a := a) (v := lN r.2.2.1) (ν := ν)
  have hL := fun q => m_goR_L (X := X) (q := q) (κ := r.2.2.2.2) (o := o) (a := a) (v := lN r.2.2.1) (ν := ν)
  have hv := m_goR_v (X := X) (κ := r.2.2.2.2) (o := o) (a := a) (v := lN r.2.2.1) (ν := ν)
  have hS : Sh X (m_goR X r.2.2.2.2 o a (lN r.2.2.1) ν) := sh_x (m_goR_P _ _ _ _ _ _) (m_goR_t _ _ _ _ _ _) hν.1
  generalize m_goR X r.2.2.2.2 o a (lN r.2.2.1) ν = π at h90 h130 ho hL hv hS ⊢
  refine IR_rn hS (fun j h1 j2 j3 j4 => ?_) (fun q q1 q2 q3 q4 => ho q q3 (by unfold scM at q2; omega) (by unfold scM at q2; omega) (by omega)) (fun q _ q2 _ => hL q q2) ?_ hν
  · rw [h90]
    exact p3 j (by unfold fdM at h1; omega) j3 j4
  · obtain ⟨x1, x2⟩ := hν.2.2.2.2.2
    refine ⟨?_, fun j hj => ?_⟩
    · rw [u1_s, h90]
      refine ⟨by rw [p3 64 (by omega) (by omega) (by omega), x1.1, e, hr1], fun _ => ⟨p1, hv, p2, fun p hp => ?_⟩⟩
      rw [h130, if_pos hp]
    · rw [u1_n _ _ (by omega), ho (X + 134) (by omega) (by omega) (by omega) (by omega), ho (X + 131) (by omega) (by omega) (by omega) (by omega), ho (X + 132) (by omega) (by omega) (by omega) (by omega), hL (X + 133) (by omega)]
      have := x2 j hj
      refine ⟨this.1, fun q => ?_⟩
      obtain ⟨y1, y2, y3, y4⟩ := this.2 q
      refine ⟨y1, y2, y3, fun p hp => ?_⟩
      rw [h130, if_neg (by omega)]
      exact y4 p hp
theorem k_go (a : Int32) (hi : i < 1000) (h0 : mm_K μ b = (19, L) ∧ mm_I μ b = xs ∧ b < X) (h : IC X i c s μ) (hR : IR X s μ) : ∃ r μ1 μ2, f_X10_go X a μ = some (r, μ1) ∧ f_X11_go (X + 90) a μ1 = some (r, μ2) ∧ Inv b L xs X (i + 1) μ2 ∧ (mm_K μ1 b = (19, L) ∧ mm_I μ1 b = xs) := by
  have h1 := h.1.1
  have hrn := h.2.2.2.2.2.1
  have ok := h.2.1.1
  by_cases c1 : inR a 201
  · obtain ⟨n, hn, rfl⟩ := inR_ex c1 (by decide)
    cases e : (s.2.2.2.2.2.2 0).1 with
    | false =>
      refine both h0 hR (r := -4) (μ1 := μ) ?_ (IC_up h) (ChC_r _ _) (fun hν => ⟨_, ?_, hν, ChM_r _ _⟩)
      · unfold f_X10_go
        rw [if_pos (by rw [mk_0 h1]), show (200 : Int32) = nI 200 from rfl, two_ends2 (by decide), if_pos c1, rp_0_6 h1, ob, rf_13 h1, ob, hrn.2.1.1, e, if_pos (show nI false.toNat = 0 from rfl)]
      · unfold f_X11_go
        rw [if_pos (by rw [mk_90 hν.1]), show (200 : Int32) = nI 200 from rfl, e_inK (by decide), ob, bz_if, if_pos c1, rf_90 hν.1, ob, hν.2.2.2.2.2.1.1, e, if_pos (show nI false.toNat = 0 from rfl)]
    | true =>
      have hok := OkG_of (hrn.1 0) e
      obtain ⟨μ1, hx, hcr⟩ := c_go hi h e (by omega : n ≤ 200)
      have hP := p_X10_go hx
      have hT := t_X10_go hx
      have hI : ∀ q, q ≠ X + 58 → q ≠ X + 62 → q ≠ X + 63 → q ≠ X + 13 → q ≠ X + 14 → mm_I μ1 q = mm_I μ q := fun q k1 k2 k3 k4 k5 => i_X10_go hx (fr_go h1 k1 k2 k3 k4 k5)
      have hL : ∀ q, mm_L μ1 q = mm_L μ q := fun q => j_X10_go hx
      have hrok := rdays_ok ok hok n
      have hCI : IC X (i + 1) c (s.1, s.2.1, s.2.2.1, s.2.2.2.1, s.2.2.2.2.1, s.2.2.2.2.2.1, u1 s.2.2.2.2.2.2 0 (rdays s.1 (s.2.2.2.2.2.2 0) n)) μ1 := by
        refine IC_rn hP hT (fun q g0 g1 g2 _ => hI q (by unfold scr at g0; omega) (by unfold scr at g0; omega) (by unfold scr at g0; omega) g1 g2) (funext hL) (u1R_ok (fun j => okRs_up (hrn.1 j)) (fun _ => ⟨hrok.2.1, hrok.2.2.1, Nat.le_trans hrok.2.2.2.1 (by omega), hrok.2.2.2.2⟩)) ?_ h
        refine ⟨by rw [u1_s]; exact hcr, ?_, ?_, ?_⟩
        · rw [u1_n _ _ (by omega)]; exact cr1_x (hI _ (by omega) (by omega) (by omega) (by omega) (by omega)) (hI _ (by omega) (by omega) (by omega) (by omega) (by omega)) hrn.2.2.1
        · rw [u1_n _ _ (by omega)]; exact cr1_x (hI _ (by omega) (by omega) (by omega) (by omega) (by omega)) (hI _ (by omega) (by omega) (by omega) (by omega) (by omega)) hrn.2.2.2.1
        · rw [u1_n _ _ (by omega)]; exact cr1_x (hI _ (by omega) (by omega) (by omega) (by omega) (by omega)) (hI _ (by omega) (by omega) (by omega) (by omega) (by omega)) hrn.2.2.2.2
      refine both h0 hR hx hCI ⟨fun q hq => hI q (by unfold inM at hq; omega) (by unfold inM at hq; omega) (by unfold inM at hq; omega) (by unfold inM at hq; omega) (by unfold inM at hq; omega), fun q _ => hL q, fun q hq => ⟨hI q (by omega) (by omega) (by omega) (by omega) (by omega), by rw [tl_K hT]⟩⟩ (fun hν => ?_)
      obtain ⟨o, a', w1, w2⟩ := r_go hν ok hok (by omega) (by omega : n ≤ 200)
      exact ⟨_, w1, IR_go hν e hrok.1 w2, fun q hq => m_goR_o (by unfold inM at hq; omega) (by unfold inM at hq; omega) (by unfold inM at hq; omega) (by unfold inM at hq; omega), fun q hq => m_goR_L (by unfold inM at hq; omega), m_goR_P _ _ _ _ _ _, m_goR_t _ _ _ _ _ _⟩
  · refine both h0 hR (r := -2) (μ1 := μ) ?_ (IC_up h) (ChC_r _ _) (fun hν => ⟨_, ?_, hν, ChM_r _ _⟩)
    · unfold f_X10_go
      rw [if_pos (by rw [mk_0 h1]), show (200 : Int32) = nI 200 from rfl, two_ends2 (by decide), if_neg c1]
    · unfold f_X11_go
      rw [if_pos (by rw [mk_90 hν.1]), show (200 : Int32) = nI 200 from rfl, e_inK (by decide), ob, bz_if, if_neg c1]
end CALLS
