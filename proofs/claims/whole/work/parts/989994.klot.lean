/-! ===== lot, lotDay: both ===== -/
section CALLS
variable {b L : Nat} {xs : Nat → Int32} {X i c : Nat} {s : Sv} {μ ν : Mm}
theorem cnt_all {T : Tn} {d : Nat → Nat} {f j : Nat} : (cntb (c_beh T d w7 u0 f j) (T 0 0) = T 0 0) ↔ allb (T 0 0) (c_beh T d w7 u0 f j) = true := by rw [cntb_all, allb_t]
theorem k_lot (a1 a2 a3 l4 : Int32) (h0 : mm_K μ b = (19, L) ∧ mm_I μ b = xs ∧ b < X) (h : IC X i c s μ) (hR : IR X s μ) : ∃ r μ1 μ2, f_X10_lot X a1 a2 a3 l4 μ = some (r, μ1) ∧ f_X11_lot (X + 90) a1 a2 a3 l4 μ1 = some (r, μ2) ∧ Inv b L xs X (i + 1) μ2 ∧ (mm_K μ1 b = (19, L) ∧ mm_I μ1 b = xs) := by
  have h1 := h.1.1
  obtain ⟨ok, ht, hct, -, hsp, h15⟩ := h.2.1
  have n8 := ok.1.1
  have n12 := ok.1.2.1
  have hl := EN_len ok
  have hpos : 0 < (EN s.1).length := by omega
  by_cases e : inR a1 (s.1 0 1) ∧ inR a2 28 ∧ inR a3 2
  · obtain ⟨e1, e2, e3⟩ := e
    obtain ⟨f, hf, rfl⟩ := inR_ex e1 (by omega)
    obtain ⟨day, hd, rfl⟩ := inR_ex e2 (by decide)
    obtain ⟨g, hg, rfl⟩ := inR_ex e3 (by decide)
    have b0 := lot0_b (f := f) (day := day) ok _ (Nat.le_refl _)
    have b1 := cntb_le (fun k => allb (s.1 0 0) (c_beh s.1 (dr s.1 k) w7 u0 f (day + 1))) (EN s.1).length
    obtain ⟨u, hu⟩ : ∃ u, u = if g = 0 then lot0 s.1 f day else lot1 s.1 f day := ⟨_, rfl⟩
    have hub : u < 2 ^ 31 := by
      rw [hu]
      unfold lot0 lot1
      split <;> omega
    obtain ⟨ρ, r1, r2, r3⟩ : ∃ ρ, f_X10_lot X (nI f) (nI day) (nI g) l4 μ = some (nI ((if l4 = 0 then u else (EN s.1).length) / Nat.gcd u (EN s.1).length), ρ) ∧ IC X i c s ρ ∧ ChC X μ ρ := by
      unfold f_X10_lot f_X10_lot_J55
      rw [if_pos (by rw [mk_0 h1]), cb_p h.1, ob, e_isFact' (cb_w h.1) hct ok, ob, bz_if, if_pos e1, c_isDay, ob, bz_if, if_pos e2, if_neg (nI_pos (by omega)), if_pos (by rw [show (1 : Int32) = nI 1 from rfl, nI_le_i (by omega) (by omega)]; omega), rp_0_5 h1]
      by_cases w0 : g = 0
      · obtain ⟨ρ, q1, q2, q3⟩ := c_inAll h hf hd
        rw [if_pos w0] at hu
        exact ⟨ρ, by rw [if_pos (by rw [w0]; rfl), ob, q1, ob, ← hu, e_least2 q2 hub, ob], q2, q3⟩
      · obtain ⟨ρ, q1, q2, q3⟩ := c_ofAll h hf hd
        rw [if_neg w0] at hu
        exact ⟨ρ, by rw [if_neg (by rw [nI_z (by omega)]; exact w0), ob, q1, ob, ← hu, e_least2 q2 hub, ob], q2, q3⟩
    refine both h0 hR r1 (IC_up r2) r3 (fun hν => ?_)
    have loop := whl_i (body := f_X11_lot_L33 (X + 90) (nI f) (nI day) (nI g) l4) (EN s.1).length (fun k (x : Int32 × Int32 × Mm) => ∃ π, x = (nI (if g = 0 then sg (fun k => cntb (c_beh s.1 (dr s.1 k) w7 u0 f (day + 1)) (s.1 0 0)) k else cntb (fun k => allb (s.1 0 0) (c_beh s.1 (dr s.1 k) w7 u0 f (day + 1))) k), nI k, π) ∧ FrK X ρ π) (Q := fun r => ∃ π, r = (nI u, π) ∧ FrK X ρ π) (s0 := ((0 : Int32), (0 : Int32), ρ)) ⟨ρ, by split <;> rfl, FrK_r⟩ ?_ ?_
    · obtain ⟨r, q1, π, q2, q3⟩ := loop
      obtain ⟨ir, ch⟩ := IR_k hν q3
      refine ⟨π, ?_, ir, ch⟩
      have g0 : 0 < Nat.gcd u (EN s.1).length := Nat.gcd_pos_of_pos_right u hpos
      have g1 := Nat.gcd_le_right u hpos
      unfold f_X11_lot
      rw [if_pos (by rw [mk_90 hν.1]), r_isFact hν.1 hν.2.1.1 ok, ob, bz_if, if_pos e1, r_isDay, ob, bz_if, if_pos e2, e_in, ob, bz_if, if_pos (by rw [show (0 : Int32) = nI 0 from rfl, show (1 : Int32) = nI 1 from rfl, nI_le_i (by decide) (by omega), nI_le_i (by omega) (by decide)]; omega), q1, ob, q2]
      unfold f_X11_lot_J100 f_X11_lot_J114
      simp only [rf_90 ir.1, ob, ir.2.1.2.2.1, e_common (μ := π) hub (show (EN s.1).length < 2 ^ 31 by omega)]
      have gz : ¬ nI (Nat.gcd u (EN s.1).length) = 0 := by rw [nI_z (by omega)]; omega
      by_cases z : l4 = 0
      · rw [if_pos z, if_pos z, if_neg gz, pk_div hub g0 (by omega)]
      · rw [if_neg z, if_neg z, if_neg gz, pk_div (by omega) g0 (by omega)]
    · rintro k x hk ⟨π, rfl, q1⟩
      obtain ⟨ir, -⟩ := IR_k hν q1
      obtain ⟨π1, l1, l2⟩ := q_live ir ok hk hd
      have fj := KR_j l2
      obtain ⟨ir1, -⟩ := IR_k ir fj.1
      have mk := r_many ir1.1 ir1.2.1.1 ok (dr_ok ok hk) hf l2
      have cl := cntb_le (c_beh s.1 (dr s.1 k) w7 u0 f (day + 1)) (s.1 0 0)
      refine ⟨(nI (if g = 0 then sg (fun k => cntb (c_beh s.1 (dr s.1 k) w7 u0 f (day + 1)) (s.1 0 0)) (k + 1) else cntb (fun k => allb (s.1 0 0) (c_beh s.1 (dr s.1 k) w7 u0 f (day + 1))) (k + 1)), nI (k + 1), π1), ?_, π1, rfl, FrK_t q1 fj.1⟩
      simp only [f_X11_lot_L33, f_X11_lot_J91]
      rw [rf_90 ir.1, ob, ir.2.1.2.2.1, if_neg (by rw [nI_le_i (by omega) (by omega)]; omega), rp_90_34 ir.1, ob, r_row ir.1 ir.2.1 ok hk, ob, l1, ob, mk, ob]
      simp only [rp_90_12 ir1.1, mr_n0 ir1.1 ir1.2.1.1, ob, nI_1]
      by_cases w0 : g = 0
      · rw [if_pos (by rw [w0]; rfl), if_pos w0, if_pos w0, nI_add]
        rfl
      · rw [if_neg (by rw [nI_z (by omega)]; exact w0), if_neg w0, if_neg w0]
        have ec : cntb (fun k => allb (s.1 0 0) (c_beh s.1 (dr s.1 k) w7 u0 f (day + 1))) (k + 1) = cntb (fun k => allb (s.1 0 0) (c_beh s.1 (dr s.1 k) w7 u0 f (day + 1))) k + (allb (s.1 0 0) (c_beh s.1 (dr s.1 k) w7 u0 f (day + 1))).toNat := rfl
        rw [ec]
        have ca := cnt_all (T := s.1) (d := dr s.1 k) (f := f) (j := day + 1)
        cases ea : allb (s.1 0 0) (c_beh s.1 (dr s.1 k) w7 u0 f (day + 1)) with
        | true =>
          rw [if_pos (by rw [ca.mpr ea])]
          rfl
        | false =>
          rw [if_neg (by rw [nI_eq_i (by omega) (by omega)]; exact fun y => by have := ca.mp y; rw [ea] at this; cases this)]
          rw [show (0 : Int32) = nI 0 from rfl, nI_add]
          rfl
    · rintro x ⟨π, rfl, q1⟩
      obtain ⟨ir, -⟩ := IR_k hν q1
      refine ⟨_, ?_, π, rfl, q1⟩
      simp only [f_X11_lot_L33]
      rw [rf_90 ir.1, ob, ir.2.1.2.2.1, if_pos (nI_le (Nat.le_refl _) (by omega)), hu]
      rfl
  · refine both h0 hR (r := -2) (μ1 := μ) ?_ (IC_up h) (ChC_r _ _) (fun hν => ⟨_, ?_, hν, ChM_r _ _⟩)
    · unfold f_X10_lot
      rw [if_pos (by rw [mk_0 h1]), cb_p h.1, ob, e_isFact' (cb_w h.1) hct ok, ob, bz_if, c_isDay, ob, bz_if]
      by_cases e1 : inR a1 (s.1 0 1)
      · rw [if_pos e1]
        by_cases e2 : inR a2 28
        · rw [if_pos e2]
          by_cases w : a3 < 0
          · rw [if_pos w]
          · rw [if_neg w, if_neg (fun y => e ⟨e1, e2, ?_⟩)]
            rw [lt0] at w
            rw [show (1 : Int32) = nI 1 from rfl, nI_le' (by decide)] at y
            exact ⟨by omega, by omega⟩
        · rw [if_neg e2]
      · rw [if_neg e1]
    · unfold f_X11_lot
      rw [if_pos (by rw [mk_90 hν.1]), r_isFact hν.1 hν.2.1.1 ok, ob, bz_if, r_isDay, ob, bz_if, e_in, ob, bz_if]
      by_cases e1 : inR a1 (s.1 0 1)
      · rw [if_pos e1]
        by_cases e2 : inR a2 28
        · rw [if_pos e2, if_neg (fun y => e ⟨e1, e2, ?_⟩)]
          rw [show (0 : Int32) = nI 0 from rfl, show (1 : Int32) = nI 1 from rfl, le_nI (by decide), nI_le' (by decide)] at y
          exact ⟨by omega, by omega⟩
        · rw [if_neg e2]
      · rw [if_neg e1]
theorem r_allDay {f t : Nat} (h : IR X s μ) (ok : OkT s.1) (ht : t < (EN s.1).length) (hf : f < s.1 0 1) : ∃ π, f_X11_allDay (X + 90) (lN (rwT s.1 t)) (nI f) μ = some (nI (dyA s.1 (dr s.1 t) f), π) ∧ FrJ X μ π := by
  have n8 := ok.1.1
  have od := dr_ok ok ht
  obtain ⟨π0, f1, f2⟩ := r_fgt (T := s.1) (d := dr s.1 t) h.1
  have loop := whl_e (body := f_X11_allDay_L7 (X + 90) (lN (rwT s.1 t)) (nI f)) 28 (fun j (x : Int32 × Mm) => ∃ π, x = (nI j, π) ∧ KR X s.1 (dr s.1 t) μ j π ∧ ∀ l, l < j → allb (s.1 0 0) (c_beh s.1 (dr s.1 t) w7 u0 f (l + 1)) = false) (Q := fun r => ∃ π, sm (fun (q : Int32 × Mm) => q) (fun (q : Mm) => ((28 : Int32), q)) r = (nI (dyA s.1 (dr s.1 t) f), π) ∧ FrJ X μ π) (s0 := ((0 : Int32), π0)) ⟨π0, rfl, f2, fun l hl => by omega⟩ ?_ ?_
  · obtain ⟨r, q1, π, q2, q3⟩ := loop
    refine ⟨π, ?_, q3⟩
    unfold f_X11_allDay
    rw [if_pos (by rw [mk_90 h.1]), f1, ob, q1, ob]
    cases r with
    | inl b => exact congrArg some q2
    | inr b => exact congrArg some q2
  · rintro j x hj ⟨π, rfl, q1, q2⟩
    obtain ⟨π1, p1, p2⟩ := q_day h ok ht hj q1
    obtain ⟨π2, n1, n2⟩ := q_ngt h ok ht hj p2
    have fj := KR_j n2
    obtain ⟨ir, -⟩ := IR_k h fj.1
    have mk := r_many ir.1 ir.2.1.1 ok od hf n2
    have cl := cntb_le (c_beh s.1 (dr s.1 t) w7 u0 f (j + 1)) (s.1 0 0)
    have ca := cnt_all (T := s.1) (d := dr s.1 t) (f := f) (j := j + 1)
    simp only [f_X11_allDay_L7]
    rw [if_neg (by rw [show (28 : Int32) = nI 28 from rfl, nI_le_i (by omega) (by omega)]; omega), p1, ob, n1, ob, mk, ob, rp_90_12 ir.1, ob, mr_n0 ir.1 ir.2.1.1, ob]
    by_cases ea : allb (s.1 0 0) (c_beh s.1 (dr s.1 t) w7 u0 f (j + 1)) = true
    · right
      refine ⟨_, by rw [if_pos (by rw [ca.mpr ea])], π2, ?_, fj⟩
      have : c_all s.1 (dr s.1 t) w7 f = some j := ff_some.mpr ⟨hj, ea, q2⟩
      unfold dyA
      rw [this]
      rfl
    · left
      refine ⟨_, by rw [if_neg (by rw [nI_eq_i (by omega) (by omega)]; exact fun y => ea (ca.mp y)), ob, nI_1], π2, rfl, n2, fun l hl => ?_⟩
      by_cases w : l = j
      · rw [w]; simpa using ea
      · exact q2 l (by omega)
  · rintro x ⟨π, rfl, q1, q2⟩
    refine ⟨.inr π, ?_, π, ?_, KR_j q1⟩
    · simp only [f_X11_allDay_L7]
      rw [if_pos (by decide)]
    · have : c_all s.1 (dr s.1 t) w7 f = none := ff_none.mpr q2
      unfold dyA
      rw [this]
      rfl
theorem k_lotDay (a1 l2 : Int32) (h0 : mm_K μ b = (19, L) ∧ mm_I μ b = xs ∧ b < X) (h : IC X i c s μ) (hR : IR X s μ) : ∃ r μ1 μ2, f_X10_lotDay X a1 l2 μ = some (r, μ1) ∧ f_X11_lotDay (X + 90) a1 l2 μ1 = some (r, μ2) ∧ Inv b L xs X (i + 1) μ2 ∧ (mm_K μ1 b = (19, L) ∧ mm_I μ1 b = xs) := by
  have h1 := h.1.1
  obtain ⟨ok, ht, hct, -, hsp, h15⟩ := h.2.1
  have n8 := ok.1.1
  have n12 := ok.1.2.1
  have hl := EN_len ok
  have hpos : 0 < (EN s.1).length := by omega
  by_cases e1 : inR a1 (s.1 0 1)
  · obtain ⟨f, hf, rfl⟩ := inR_ex e1 (by omega)
    have b2 := lot2_b (f := f) ok _ (Nat.le_refl _)
    have hub : lot2 s.1 f < 2 ^ 31 := by
      unfold lot2
      omega
    obtain ⟨ρ, q1, q2, q3⟩ := c_first h hf
    have r1 : f_X10_lotDay X (nI f) l2 μ = some (nI ((if l2 = 0 then lot2 s.1 f else (EN s.1).length) / Nat.gcd (lot2 s.1 f) (EN s.1).length), ρ) := by
      unfold f_X10_lotDay
      rw [if_pos (by rw [mk_0 h1]), cb_p h.1, ob, e_isFact' (cb_w h.1) hct ok, ob, bz_if, if_pos e1, rp_0_5 h1, ob, q1, ob, e_least2 q2 hub, ob]
    refine both h0 hR r1 (IC_up q2) q3 (fun hν => ?_)
    have loop := whl_i (body := f_X11_lotDay_L16 (X + 90) (nI f) l2) (EN s.1).length (fun k (x : Int32 × Int32 × Mm) => ∃ π, x = (nI (sg (fun k => dyA s.1 (dr s.1 k) f) k), nI k, π) ∧ FrK X ρ π) (Q := fun r => ∃ π, r = (nI (lot2 s.1 f), π) ∧ FrK X ρ π) (s0 := ((0 : Int32), (0 : Int32), ρ)) ⟨ρ, rfl, FrK_r⟩ ?_ ?_
    · obtain ⟨r, w1, π, w2, w3⟩ := loop
      obtain ⟨ir, ch⟩ := IR_k hν w3
      refine ⟨π, ?_, ir, ch⟩
      have g0 : 0 < Nat.gcd (lot2 s.1 f) (EN s.1).length := Nat.gcd_pos_of_pos_right _ hpos
      have g1 := Nat.gcd_le_right (lot2 s.1 f) hpos
      unfold f_X11_lotDay
      rw [if_pos (by rw [mk_90 hν.1]), r_isFact hν.1 hν.2.1.1 ok, ob, bz_if, if_pos e1, w1, ob, w2]
      unfold f_X11_lotDay_J46 f_X11_lotDay_J58
      simp only [rf_90 ir.1, ob, ir.2.1.2.2.1, e_common (μ := π) hub (show (EN s.1).length < 2 ^ 31 by omega)]
      have gz : ¬ nI (Nat.gcd (lot2 s.1 f) (EN s.1).length) = 0 := by rw [nI_z (by omega)]; omega
      by_cases z : l2 = 0
      · rw [if_pos z, if_pos z, if_neg gz, pk_div hub g0 (by omega)]
      · rw [if_neg z, if_neg z, if_neg gz, pk_div (by omega) g0 (by omega)]
    · rintro k x hk ⟨π, rfl, w1⟩
      obtain ⟨ir, -⟩ := IR_k hν w1
      obtain ⟨π1, l1, l2'⟩ := r_allDay ir ok hk hf
      refine ⟨(nI (sg (fun k => dyA s.1 (dr s.1 k) f) (k + 1)), nI (k + 1), π1), ?_, π1, rfl, FrK_t w1 l2'.1⟩
      simp only [f_X11_lotDay_L16]
      rw [rf_90 ir.1, ob, ir.2.1.2.2.1, if_neg (by rw [nI_le_i (by omega) (by omega)]; omega), rp_90_34 ir.1, ob, r_row ir.1 ir.2.1 ok hk, ob, l1, ob, nI_add, ob, ob, nI_1]
      rfl
    · rintro x ⟨π, rfl, w1⟩
      obtain ⟨ir, -⟩ := IR_k hν w1
      refine ⟨_, ?_, π, rfl, w1⟩
      simp only [f_X11_lotDay_L16]
      rw [rf_90 ir.1, ob, ir.2.1.2.2.1, if_pos (nI_le (Nat.le_refl _) (by omega))]
      rfl
  · refine both h0 hR (r := -2) (μ1 := μ) ?_ (IC_up h) (ChC_r _ _) (fun hν => ⟨_, ?_, hν, ChM_r _ _⟩)
    · unfold f_X10_lotDay
      rw [if_pos (by rw [mk_0 h1]), cb_p h.1, ob, e_isFact' (cb_w h.1) hct ok, ob, bz_if, if_neg e1]
    · unfold f_X11_lotDay
      rw [if_pos (by rw [mk_90 hν.1]), r_isFact hν.1 hν.2.1.1 ok, ob, bz_if, if_neg e1]
end CALLS
