/-! ===== sure, knowers, lot, lotDay: both ===== -/
section CALLS
variable {b L : Nat} {xs : Nat → Int32} {X i c : Nat} {s : Sv} {μ ν : Mm}
theorem k_sure (a1 a2 : Int32) (h0 : mm_K μ b = (19, L) ∧ mm_I μ b = xs ∧ b < X) (h : IC X i c s μ) (hR : IR X s μ) : ∃ r μ1 μ2, f_X10_sure X a1 a2 μ = some (r, μ1) ∧ f_X11_sure (X + 90) a1 a2 μ1 = some (r, μ2) ∧ Inv b L xs X (i + 1) μ2 ∧ (mm_K μ1 b = (19, L) ∧ mm_I μ1 b = xs) := by
  have h1 := h.1.1
  obtain ⟨ok, ht, hct, -, hsp, h15⟩ := h.2.1
  have n8 := ok.1.1
  have hl := EN_len ok
  obtain ⟨oa, -⟩ := h.2.2.2.2.1
  have hpos : 0 < (EN s.1).length := by omega
  by_cases e : inR a1 (s.1 0 0) ∧ inR a2 1000
  · obtain ⟨e1, e2⟩ := e
    obtain ⟨p, hp, rfl⟩ := inR_ex e1 (by omega)
    obtain ⟨st, hs, rfl⟩ := inR_ex e2 (by decide)
    obtain ⟨Rw, Ft, nr, sz, fo, Ml, Ln, as, z0, -⟩ := cc_z h.2.2.2.2.2.2
    obtain ⟨ν, Rw', Ft', nr', fo', Ml', Ln', a1', a2', a3', a4', -⟩ := z_fit (st := st) (IC_w h) (by omega) z0
    obtain ⟨icν, chν⟩ := IC_fin h a2' a3'.1 a4'
    have gν := icν.1.1
    have hx : f_X10_sure X (nI p) (nI st) μ = some (nI (bm (fun q => anyb (fun k => fits s.1 s.2.2.2.2.2.1 st k && dr s.1 k p == q) (EN s.1).length) 8), ν) := by
      unfold f_X10_sure
      rw [if_pos (by rw [mk_0 h1]), cb_p h.1, ob, e_isPerson' (cb_w h.1) hct ok, ob, bz_if, if_pos e1, c_isStep, ob, bz_if, if_pos e2, rp_0_5 h1, ob, a1', ob, rp_0_5 gν, ob, e_mayD gν a3' ok hpos (by omega), ob]
    refine both h0 hR hx (IC_up icν) chν (fun hν => ?_)
    obtain ⟨π, p1, p2, p3⟩ := r_find (st := st) hν ok oa (by omega)
    obtain ⟨ir, ch⟩ := IR_k hν p2
    refine ⟨π, ?_, ir, ch⟩
    unfold f_X11_sure
    rw [if_pos (by rw [mk_90 hν.1]), r_isPerson hν.1 hν.2.1.1 ok, ob, bz_if, if_pos e1, r_isStep, ob, bz_if, if_pos e2, p1, ob]
    have key : whl (f_X11_sure_L29 (X + 90) (nI p) π) ((0 : Int32), (0 : Int32)) = some (nI (bm (fun q => anyb (fun k => fits s.1 s.2.2.2.2.2.1 st k && dr s.1 k p == q) (EN s.1).length) 8)) := by
      refine whl_c (EN s.1).length (fun k => (nI (bm (fun q => anyb (fun k => fits s.1 s.2.2.2.2.2.1 st k && dr s.1 k p == q) k) 8), nI k)) ?_ (fun k hk => ?_) ?_
      · have : bm (fun q => anyb (fun k => fits s.1 s.2.2.2.2.2.1 st k && dr s.1 k p == q) 0) 8 = 0 := bm_0.symm
        rw [this]; rfl
      · have od := dr_ok ok hk
        have hd := dr_R ok hk p hp π
        simp only [f_X11_sure_L29, f_X11_sure_J78]
        rw [rf_90 ir.1, ob, ir.2.1.2.2.1, if_neg (by rw [nI_le_i (by omega) (by omega)]; omega), r_isFit ir.1 p3 hk hl, ob]
        simp only [rp_90_34 ir.1, r_row ir.1 ir.2.1 ok hk, hd, ob, nI_1]
        cases ef : fits s.1 s.2.2.2.2.2.1 st k with
        | false =>
          rw [if_pos (show nI false.toNat = 0 from rfl)]
          congr 4
          apply bm_x
          intro q hq
          show _ = (_ || (fits s.1 s.2.2.2.2.2.1 st k && _))
          rw [ef, Bool.false_and, Bool.or_false]
        | true =>
          rw [if_neg (show ¬ nI true.toNat = 0 by decide)]
          by_cases w : dr s.1 k p = 15
          · rw [if_pos (by unfold dI; rw [if_pos w])]
            congr 4
            apply bm_x
            intro q hq
            show _ = (_ || (fits s.1 s.2.2.2.2.2.1 st k && (dr s.1 k p == q)))
            have : (dr s.1 k p == q) = false := by simp; omega
            rw [this, Bool.and_false, Bool.or_false]
          · have hd8 : dr s.1 k p < 8 := by rcases od.1 p with y | y; omega; exact absurd y w
            have e1 : dI (dr s.1 k p) = nI (dr s.1 k p) := by unfold dI; rw [if_neg w]
            rw [e1, if_neg (neg1_ne (by omega)), b_one (by omega), nI_or, bm_set _ hd8]
            congr 4
            apply bm_x
            intro q hq
            show _ = (_ || (fits s.1 s.2.2.2.2.2.1 st k && (dr s.1 k p == q)))
            rw [ef, Bool.true_and]
            congr 1
            exact Bool.beq_comm
      · simp only [f_X11_sure_L29]
        rw [rf_90 ir.1, ob, ir.2.1.2.2.1, if_pos (nI_le (Nat.le_refl _) (by omega))]
    rw [key, ob]
  · refine both h0 hR (r := -2) (μ1 := μ) ?_ (IC_up h) (ChC_r _ _) (fun hν => ⟨_, ?_, hν, ChM_r _ _⟩)
    · unfold f_X10_sure
      rw [if_pos (by rw [mk_0 h1]), cb_p h.1, ob, e_isPerson' (cb_w h.1) hct ok, ob, bz_if, c_isStep, ob, bz_if]
      by_cases e1 : inR a1 (s.1 0 0)
      · rw [if_pos e1, if_neg (fun e3 => e ⟨e1, e3⟩)]
      · rw [if_neg e1]
    · unfold f_X11_sure
      rw [if_pos (by rw [mk_90 hν.1]), r_isPerson hν.1 hν.2.1.1 ok, ob, bz_if, r_isStep, ob, bz_if]
      by_cases e1 : inR a1 (s.1 0 0)
      · rw [if_pos e1, if_neg (fun e3 => e ⟨e1, e3⟩)]
      · rw [if_neg e1]
/-- how many know behind a day of a life -/
theorem r_many {T : Tn} {d : Nat → Nat} {f j : Nat} {π : Mm} (h : Sh X π) (hm : MTn (X + 90) 0 T π) (ok : OkT T) (od : OkD (T 0 0) d) (hf : f < T 0 1) (hk : KR X T d ν j π) : f_X11_manyKnow (X + 90) (nI f) π = some (nI (cntb (c_beh T d w7 u0 f j) (T 0 0))) := by
  have n12 := ok.1.2.1
  rw [e_manyKnow (κ := fun p f => decide (f < T 0 1) && c_beh T d w7 u0 f j p) h hm ok (fun p hp => KR_k ok od hk hp) (by omega)]
  congr 2
  exact cntb_x (fun p _ => by rw [decide_eq_true hf, Bool.true_and])
theorem r_set {T : Tn} {d : Nat → Nat} {f j : Nat} {l2 l4 l5 l6 l7 l8 : Int32} {π : Mm} (h : Sh X π) (hm : MTn (X + 90) 0 T π) (ok : OkT T) (od : OkD (T 0 0) d) (hf : f < T 0 1) (hk : KR X T d ν j π) : whl (f_X11_knowers_L107 (X + 90) (nI f) l2 l4 l5 l6 l7 l8 π) ((0 : Int32), (0 : Int32)) = some (nI (bm (fun p => decide (p < T 0 0) && c_beh T d w7 u0 f j p) 8)) := by
  have n12 := ok.1.2.1
  have n8 := ok.1.1
  refine whl_c (T 0 0) (fun k => (nI (bm (fun p => decide (p < k) && c_beh T d w7 u0 f j p) 8), nI k)) ?_ (fun k hk' => ?_) ?_
  · have : bm (fun p => decide (p < 0) && c_beh T d w7 u0 f j p) 8 = 0 := by
      rw [bm_z]
      intro i _
      rw [decide_eq_false (by omega), Bool.false_and]
    rw [this]; rfl
  · simp only [f_X11_knowers_L107]
    rw [rp_90_12 h, ob, mr_n0 h hm, ob, if_neg (by rw [nI_le_i (by omega) (by omega)]; omega), rp_90_35 h, ob, ra_111 h (by omega), ob, KR_k ok od hk (by omega), bmb (by omega) (by decide), decide_eq_true hf, Bool.true_and, shl_b (by omega), nI_or, bm_add (g := c_beh T d w7 u0 f j) (by omega), ob, ob, nI_1]
  · simp only [f_X11_knowers_L107]
    rw [rp_90_12 h, ob, mr_n0 h hm, ob, if_pos (nI_le (Nat.le_refl _) (by omega))]
theorem k_knowers (a1 a2 a3 a4 : Int32) (h0 : mm_K μ b = (19, L) ∧ mm_I μ b = xs ∧ b < X) (h : IC X i c s μ) (hR : IR X s μ) : ∃ r μ1 μ2, f_X10_knowers X a1 a2 a3 a4 μ = some (r, μ1) ∧ f_X11_knowers (X + 90) a1 a2 a3 a4 μ1 = some (r, μ2) ∧ Inv b L xs X (i + 1) μ2 ∧ (mm_K μ1 b = (19, L) ∧ mm_I μ1 b = xs) := by
  have h1 := h.1.1
  obtain ⟨ok, ht, hct, -, hsp, h15⟩ := h.2.1
  have n8 := ok.1.1
  have n12 := ok.1.2.1
  have hl := EN_len ok
  obtain ⟨oa, -⟩ := h.2.2.2.2.1
  have hpos : 0 < (EN s.1).length := by omega
  by_cases e : inR a1 (s.1 0 1) ∧ inR a2 28 ∧ inR a3 1000 ∧ inR a4 2
  · obtain ⟨e1, e2, e3, e4⟩ := e
    obtain ⟨f, hf, rfl⟩ := inR_ex e1 (by omega)
    obtain ⟨day, hd, rfl⟩ := inR_ex e2 (by decide)
    obtain ⟨st, hs, rfl⟩ := inR_ex e3 (by decide)
    obtain ⟨g, hg, rfl⟩ := inR_ex e4 (by decide)
    obtain ⟨Rw, Ft, nr, sz, fo, Ml, Ln, as, z0, -⟩ := cc_z h.2.2.2.2.2.2
    obtain ⟨ν, Rw', Ft', nr', fo', Ml', Ln', a1', a2', a3', a4', -⟩ := z_fit (st := st) (IC_w h) (by omega) z0
    obtain ⟨icν, chν⟩ := IC_fin h a2' a3'.1 a4'
    have gν := icν.1.1
    obtain ⟨ρ, r1, r2, r3⟩ : ∃ ρ, f_X10_knowers X (nI f) (nI day) (nI st) (nI g) μ = some (nI (if g = 0 then sKn s.1 (fits s.1 s.2.2.2.2.2.1 st) f day else pKn s.1 (fits s.1 s.2.2.2.2.2.1 st) f day), ρ) ∧ IC X i c s ρ ∧ ChC X ν ρ := by
      unfold f_X10_knowers
      rw [if_pos (by rw [mk_0 h1]), cb_p h.1, ob, e_isFact' (cb_w h.1) hct ok, ob, bz_if, if_pos e1, c_isDay, ob, bz_if, if_pos e2, c_isStep, ob, bz_if, if_pos e3, if_neg (nI_pos (by omega)), if_pos (by rw [show (1 : Int32) = nI 1 from rfl, nI_le_i (by omega) (by omega)]; omega), rp_0_5 h1, ob, a1', ob, rp_0_5 gν]
      by_cases w0 : g = 0
      · obtain ⟨ρ, q1, q2, q3⟩ := c_surely icν a3' hf hd
        exact ⟨ρ, by rw [if_pos (by rw [w0]; rfl), if_pos w0, ob, q1, ob], q2, q3⟩
      · obtain ⟨ρ, q1, q2, q3⟩ := c_perh icν a3' hf hd
        exact ⟨ρ, by rw [if_neg (by rw [nI_z (by omega)]; exact w0), if_neg w0, ob, q1, ob], q2, q3⟩
    refine both h0 hR r1 (IC_up r2) (ChC_t chν r3) (fun hν => ?_)
    obtain ⟨π, p1, p2, p3⟩ := r_find (st := st) hν ok oa (by omega)
    obtain ⟨ir, ch⟩ := IR_k hν p2
    have e1' : ((1 : Int32) <<< (nI (s.1 0 0) &&& 31)) - (1 : Int32) = nI (bm (fun p => decide (p < s.1 0 0)) 8) := by
      have hp : (2 : Nat) ^ s.1 0 0 ≤ 2 ^ 8 := Nat.pow_le_pow_right (by decide) n8
      have hp0 := Nat.two_pow_pos (s.1 0 0)
      rw [b_one (by omega), show (1 : Int32) = nI 1 from rfl, pk_sub (by omega)]
      congr 1
      exact bm_of (by omega) (fun i _ => Nat.testBit_two_pow_sub_one _ _)
    have loop := whl_i (body := f_X11_knowers_L62 (X + 90) (nI f) (nI day) (nI g)) (EN s.1).length (fun k (x : Int32 × Int32 × Int32 × Int32 × Mm) => ∃ π', x = (nI (anyb (fits s.1 s.2.2.2.2.2.1 st) k).toNat, nI (bm (fun p => decide (p < s.1 0 0) && !anyb (fun j => fits s.1 s.2.2.2.2.2.1 st j && !c_beh s.1 (dr s.1 j) w7 u0 f (day + 1) p) k) 8), nI (bm (fun p => anyb (fun j => fits s.1 s.2.2.2.2.2.1 st j && (decide (p < s.1 0 0) && c_beh s.1 (dr s.1 j) w7 u0 f (day + 1) p)) k) 8), nI k, π') ∧ FrK X π π' ∧ BF X (fits s.1 s.2.2.2.2.2.1 st) (EN s.1).length π') (Q := fun r => ∃ π', r = (nI (anyb (fits s.1 s.2.2.2.2.2.1 st) (EN s.1).length).toNat, nI (bm (fun p => decide (p < s.1 0 0) && !anyb (fun j => fits s.1 s.2.2.2.2.2.1 st j && !c_beh s.1 (dr s.1 j) w7 u0 f (day + 1) p) (EN s.1).length) 8), nI (bm (fun p => anyb (fun j => fits s.1 s.2.2.2.2.2.1 st j && (decide (p < s.1 0 0) && c_beh s.1 (dr s.1 j) w7 u0 f (day + 1) p)) (EN s.1).length) 8), π') ∧ FrK X π π') (s0 := ((0 : Int32), nI (bm (fun p => decide (p < s.1 0 0)) 8), (0 : Int32), (0 : Int32), π)) ⟨π, ?_, FrK_r, p3⟩ ?_ ?_
    · obtain ⟨r, q1, π', q2, q3⟩ := loop
      obtain ⟨ir', ch'⟩ := IR_k ir q3
      refine ⟨π', ?_, ir', ChM_t ch ch'⟩
      unfold f_X11_knowers
      rw [if_pos (by rw [mk_90 hν.1]), r_isFact hν.1 hν.2.1.1 ok, ob, bz_if, if_pos e1, r_isDay, ob, bz_if, if_pos e2, r_isStep, ob, bz_if, if_pos e3, e_in, ob, bz_if, if_pos (by rw [show (0 : Int32) = nI 0 from rfl, show (1 : Int32) = nI 1 from rfl, nI_le_i (by decide) (by omega), nI_le_i (by omega) (by decide)]; omega), p1, ob, rp_90_12 ir.1, ob, mr_n0 ir.1 ir.2.1.1, ob, ob, e1', q1, ob, q2]
      unfold f_X11_knowers_J163 sKn pKn
      have ea : (anyb (fits s.1 s.2.2.2.2.2.1 st) (EN s.1).length = false) ↔ cntb (fits s.1 s.2.2.2.2.2.1 st) (EN s.1).length = 0 := by
        rw [← flt_n]
        have := flt_any (fits s.1 s.2.2.2.2.2.1 st) (fun _ => true) (EN s.1).length
        have e2 : anyb (fun k => fits s.1 s.2.2.2.2.2.1 st k && true) (EN s.1).length = anyb (fits s.1 s.2.2.2.2.2.1 st) (EN s.1).length := by
          congr 1
          funext k
          exact Bool.and_true _
        rw [e2] at this
        rw [← this]
        cases flt (fits s.1 s.2.2.2.2.2.1 st) (EN s.1).length with
        | nil => simp
        | cons a l => simp
      by_cases z : cntb (fits s.1 s.2.2.2.2.2.1 st) (EN s.1).length = 0
      · have zz := ea.mpr z
        dsimp only
        rw [zz, if_pos (show nI false.toNat = 0 from rfl)]
        by_cases w0 : g = 0
        · rw [if_pos w0, if_pos z]; rfl
        · rw [if_neg w0]
          have : bm (fun p => anyb (fun j => fits s.1 s.2.2.2.2.2.1 st j && (decide (p < s.1 0 0) && c_beh s.1 (dr s.1 j) w7 u0 f (day + 1) p)) (EN s.1).length) 8 = 0 := by
            rw [bm_z]
            intro p _
            refine anyb_f.mpr (fun k hk => ?_)
            rw [anyb_f.mp zz k hk, Bool.false_and]
          rw [this]; rfl
      · have zz : anyb (fits s.1 s.2.2.2.2.2.1 st) (EN s.1).length = true := by
          cases q : anyb (fits s.1 s.2.2.2.2.2.1 st) (EN s.1).length with
          | true => rfl
          | false => exact absurd (ea.mp q) z
        dsimp only
        rw [zz, if_neg (show ¬ nI true.toNat = 0 by decide)]
        by_cases w0 : g = 0
        · rw [if_pos (by rw [w0]; rfl), if_pos w0, if_neg z]
        · rw [if_neg (by rw [nI_z (by omega)]; exact w0), if_neg w0]
    · have e2' : bm (fun p => decide (p < s.1 0 0) && !anyb (fun j => fits s.1 s.2.2.2.2.2.1 st j && !c_beh s.1 (dr s.1 j) w7 u0 f (day + 1) p) 0) 8 = bm (fun p => decide (p < s.1 0 0)) 8 := bm_x (fun p _ => by
        show (decide (p < s.1 0 0) && !false) = _
        simp)
      have e3' : bm (fun p => anyb (fun j => fits s.1 s.2.2.2.2.2.1 st j && (decide (p < s.1 0 0) && c_beh s.1 (dr s.1 j) w7 u0 f (day + 1) p)) 0) 8 = 0 := bm_0.symm
      rw [e2', e3']
      rfl
    · rintro k x hk ⟨π', rfl, q1, q2⟩
      obtain ⟨ir', -⟩ := IR_k ir q1
      simp only [f_X11_knowers_L62, f_X11_knowers_J157, f_X11_knowers_J143]
      rw [rf_90 ir'.1, ob, ir'.2.1.2.2.1, if_neg (by rw [nI_le_i (by omega) (by omega)]; omega), r_isFit ir'.1 q2 hk hl, ob]
      have ea : anyb (fits s.1 s.2.2.2.2.2.1 st) (k + 1) = (anyb (fits s.1 s.2.2.2.2.2.1 st) k || fits s.1 s.2.2.2.2.2.1 st k) := rfl
      rw [ea]
      cases ef : fits s.1 s.2.2.2.2.2.1 st k with
      | false =>
        refine ⟨_, by rw [if_pos (show nI false.toNat = 0 from rfl), ob, nI_1], π', ?_, q1, q2⟩
        rw [Bool.or_false]
        congr 2
        · congr 1
          apply bm_x
          intro p hp
          show _ = (_ && !(_ || (fits s.1 s.2.2.2.2.2.1 st k && _)))
          rw [ef, Bool.false_and, Bool.or_false]
        · congr 2
          apply bm_x
          intro p hp
          show _ = (_ || (fits s.1 s.2.2.2.2.2.1 st k && _))
          rw [ef, Bool.false_and, Bool.or_false]
      | true =>
        obtain ⟨π1, l1, l2⟩ := q_live ir' ok hk hd
        have fj := KR_j l2
        obtain ⟨ir1, -⟩ := IR_k ir' fj.1
        have st' := fun a b c d e f' => r_set (l2 := a) (l4 := b) (l5 := c) (l6 := d) (l7 := e) (l8 := f') ir1.1 ir1.2.1.1 ok (dr_ok ok hk) hf l2
        refine ⟨_, by rw [if_neg (show ¬ nI true.toNat = 0 by decide), rp_90_34 ir'.1, ob, r_row ir'.1 ir'.2.1 ok hk, ob, l1, ob, st', ob, nI_and, bm_and, ob, nI_or, bm_or, ob, ob, nI_1], π1, ?_, FrK_t q1 fj.1, ?_⟩
        · rw [Bool.or_true]
          congr 2
          · congr 1
            apply bm_x
            intro p hp
            show _ = (_ && !(_ || (fits s.1 s.2.2.2.2.2.1 st k && _)))
            rw [ef, Bool.true_and, Bool.not_or, Bool.not_not]
            cases decide (p < s.1 0 0) <;> simp
          · congr 2
            apply bm_x
            intro p hp
            show _ = (_ || (fits s.1 s.2.2.2.2.2.1 st k && _))
            rw [ef, Bool.true_and]
        · intro j hj
          rw [fj.2.1]
          exact q2 j hj
    · rintro x ⟨π', rfl, q1, q2⟩
      obtain ⟨ir', -⟩ := IR_k ir q1
      refine ⟨_, ?_, π', rfl, q1⟩
      simp only [f_X11_knowers_L62]
      rw [rf_90 ir'.1, ob, ir'.2.1.2.2.1, if_pos (nI_le (Nat.le_refl _) (by omega))]
  · refine both h0 hR (r := -2) (μ1 := μ) ?_ (IC_up h) (ChC_r _ _) (fun hν => ⟨_, ?_, hν, ChM_r _ _⟩)
    · unfold f_X10_knowers
      rw [if_pos (by rw [mk_0 h1]), cb_p h.1, ob, e_isFact' (cb_w h.1) hct ok, ob, bz_if, c_isDay, ob, bz_if, c_isStep, ob, bz_if]
      by_cases e1 : inR a1 (s.1 0 1)
      · rw [if_pos e1]
        by_cases e2 : inR a2 28
        · rw [if_pos e2]
          by_cases e3 : inR a3 1000
          · rw [if_pos e3]
            by_cases w : a4 < 0
            · rw [if_pos w]
            · rw [if_neg w, if_neg (fun y => e ⟨e1, e2, e3, ?_⟩)]
              rw [lt0] at w
              rw [show (1 : Int32) = nI 1 from rfl, nI_le' (by decide)] at y
              exact ⟨by omega, by omega⟩
          · rw [if_neg e3]
        · rw [if_neg e2]
      · rw [if_neg e1]
    · unfold f_X11_knowers
      rw [if_pos (by rw [mk_90 hν.1]), r_isFact hν.1 hν.2.1.1 ok, ob, bz_if, r_isDay, ob, bz_if, r_isStep, ob, bz_if, e_in, ob, bz_if]
      by_cases e1 : inR a1 (s.1 0 1)
      · rw [if_pos e1]
        by_cases e2 : inR a2 28
        · rw [if_pos e2]
          by_cases e3 : inR a3 1000
          · rw [if_pos e3, if_neg (fun y => e ⟨e1, e2, e3, ?_⟩)]
            rw [show (0 : Int32) = nI 0 from rfl, show (1 : Int32) = nI 1 from rfl, le_nI (by decide), nI_le' (by decide)] at y
            exact ⟨by omega, by omega⟩
          · rw [if_neg e3]
        · rw [if_neg e2]
      · rw [if_neg e1]
end CALLS
