/-! ===== met, plan, kept: calls ===== -/
def planS (T : Tn) (d : Nat → Nat) : Nat → Nat × Nat
  | 0 => (0, pc (met8 T d (Nat.testBit 0)))
  | j + 1 => if (planS T d j).2 < pc (met8 T d (Nat.testBit (j + 1))) ∨ (pc (met8 T d (Nat.testBit (j + 1))) = (planS T d j).2 ∧ pc (j + 1) < pc (planS T d j).1) then (j + 1, pc (met8 T d (Nat.testBit (j + 1)))) else planS T d j
theorem planS_s (T : Tn) (d : Nat → Nat) (j : Nat) : planS T d (j + 1) = if (planS T d j).2 < pc (met8 T d (Nat.testBit (j + 1))) ∨ (pc (met8 T d (Nat.testBit (j + 1))) = (planS T d j).2 ∧ pc (j + 1) < pc (planS T d j).1) then (j + 1, pc (met8 T d (Nat.testBit (j + 1)))) else planS T d j := rfl
theorem planS_le (T : Tn) (d : Nat → Nat) : ∀ j, (planS T d j).1 ≤ j ∧ (planS T d j).2 ≤ 8 := by
  intro j
  induction j with
  | zero => exact ⟨Nat.le_refl _, pc_le _ (met8_lt _ _ _)⟩
  | succ j ih =>
    rw [planS_s]
    split
    · exact ⟨Nat.le_refl _, pc_le _ (met8_lt _ _ _)⟩
    · exact ⟨by omega, ih.2⟩
theorem p2_8 {n : Nat} (h : n ≤ 8) : 2 ^ n ≤ 256 ∧ 1 ≤ 2 ^ n := ⟨Nat.pow_le_pow_right (j := 8) (n := 2) (by decide) h, Nat.two_pow_pos n⟩
def keptS (T : Tn) (d : Nat → Nat) (p f day : Nat) : Nat → Option Nat
  | 0 => none
  | j + 1 => match keptS T d p f day j with
    | none => if c_beh T d (Nat.testBit 7) j.testBit f (day + 1) p then none else some j
    | some b => if pc j < pc b ∧ c_beh T d (Nat.testBit 7) j.testBit f (day + 1) p = false then some j else some b
theorem keptS_lt {T : Tn} {d : Nat → Nat} {p f day : Nat} : ∀ j b, keptS T d p f day j = some b → b < j := by
  intro j
  induction j with
  | zero => intro b h; cases h
  | succ j ih =>
    intro b h
    unfold keptS at h
    cases e : keptS T d p f day j with
    | none =>
      rw [e] at h
      dsimp only at h
      split at h
      · cases h
      · cases h; omega
    | some b' =>
      rw [e] at h
      dsimp only at h
      have := ih b' e
      split at h
      · cases h; omega
      · cases h; omega
section CALLS
variable {b L : Nat} {xs : Nat → Int32} {X i c : Nat} {s : Sv} {μ : Mm}
theorem r_isSet {X : Nat} {T : Tn} {p : Int32} {μ : Mm} (h : Sh X μ) (hm : MTn (X + 90) 0 T μ) (ok : OkT T) : f_X11_isSet (X + 90) p μ = some (bz (inR p (2 ^ T 0 0))) := by
  have hn := ok.1.1
  have h2 := p2_8 hn
  unfold f_X11_isSet f_X11_isSet_J20
  rw [if_pos (by rw [mk_90 h]), rp_90_12 h, ob, mr_n0 h hm, ob, b_one (by omega), two_ends (by omega)]
  unfold bz
  split <;> rfl
theorem k_met (a : Int32) (h0 : mm_K μ b = (19, L) ∧ mm_I μ b = xs ∧ b < X) (h : IC X i c s μ) (hR : IR X s μ) : ∃ r μ1 μ2, f_X10_met X a μ = some (r, μ1) ∧ f_X11_met (X + 90) a μ1 = some (r, μ2) ∧ Inv b L xs X (i + 1) μ2 ∧ (mm_K μ1 b = (19, L) ∧ mm_I μ1 b = xs) := by
  have h1 := h.1.1
  obtain ⟨ok, ht, hct, -, hsp, h15⟩ := h.2.1
  have od := dr_ok ok ht
  have hn := ok.1.1
  have h2 := p2_8 hn
  by_cases e : inR a (2 ^ s.1 0 0)
  · obtain ⟨u, hu, rfl⟩ := inR_ex e (by omega)
    obtain ⟨g1, g2⟩ := sp_tr h s.2.1 ht
    obtain ⟨μ1, k1, k2⟩ := c_wishesMet ok od g2 (by omega : u < 256)
    have hx : f_X10_met X (nI u) μ = some (nI (met8 s.1 (dr s.1 s.2.1) u.testBit), μ1) := by
      unfold f_X10_met
      rw [if_pos (by rw [mk_0 h1]), cb_p h.1, ob, ct_n (cb_w h.1) hct, ob, b_one (by omega), two_ends3 (by omega), if_pos e, rp_0_3 h1, ob, rf_0 h1, ob, h15, g1, ob, k1, ob]
    have hst := IC_sp h (p_X10_met hx) (t_X10_met hx) (fun q k1 k2 k3 => i_X10_met hx (fr_sp h1 k1 k2 k3)) (fun q => j_X10_met hx)
    refine both h0 hR hx hst.1 hst.2 (fun hν => ?_)
    obtain ⟨π, q1, q2⟩ := r_metBy ok ht hν (by omega : u < 256)
    refine ⟨π, ?_, q2⟩
    unfold f_X11_met
    rw [if_pos (by rw [mk_90 hν.1]), r_isSet hν.1 hν.2.1.1 ok, ob, bz_if, if_pos e, q1, ob]
  · refine both h0 hR (r := -2) (μ1 := μ) ?_ (IC_up h) (ChC_r _ _) (fun hν => ⟨_, ?_, hν, ChM_r _ _⟩)
    · unfold f_X10_met
      rw [if_pos (by rw [mk_0 h1]), cb_p h.1, ob, ct_n (cb_w h.1) hct, ob, b_one (by omega), two_ends3 (by omega), if_neg e]
    · unfold f_X11_met
      rw [if_pos (by rw [mk_90 hν.1]), r_isSet hν.1 hν.2.1.1 ok, ob, bz_if, if_neg e]
theorem k_plan (h0 : mm_K μ b = (19, L) ∧ mm_I μ b = xs ∧ b < X) (h : IC X i c s μ) (hR : IR X s μ) : ∃ r μ1 μ2, f_X10_plan X μ = some (r, μ1) ∧ f_X11_plan (X + 90) μ1 = some (r, μ2) ∧ Inv b L xs X (i + 1) μ2 ∧ (mm_K μ1 b = (19, L) ∧ mm_I μ1 b = xs) := by
  have h1 := h.1.1
  obtain ⟨ok, ht, hct, -, hsp, h15⟩ := h.2.1
  have od := dr_ok ok ht
  have hn := ok.1.1
  have h2 := p2_8 hn
  obtain ⟨g1, g2⟩ := sp_tr h s.2.1 ht
  obtain ⟨μ0, k1, k2⟩ := c_wishesMet ok od g2 (by decide : 0 < 256)
  have hx : ∃ μ1, f_X10_plan X μ = some (nI (planS s.1 (dr s.1 s.2.1) (2 ^ s.1 0 0 - 1)).1, μ1) := by
    unfold f_X10_plan
    rw [if_pos (by rw [mk_0 h1]), rp_0_3 h1, ob, rf_0 h1, ob, h15, g1, ob, show (0 : Int32) = nI 0 from rfl, k1, ob, e_bc (met8_lt _ _ _), ob]
    have key := whl_i (body := f_X10_plan_L24 X) (2 ^ s.1 0 0 - 1) (fun j (st : Int32 × Int32 × Int32 × Mm) => st.1 = nI (planS s.1 (dr s.1 s.2.1) j).1 ∧ st.2.1 = nI (planS s.1 (dr s.1 s.2.1) j).2 ∧ st.2.2.1 = nI (j + 1) ∧ Sp X c s.1 (dr s.1 s.2.1) st.2.2.2) (Q := fun r => r.1 = nI (planS s.1 (dr s.1 s.2.1) (2 ^ s.1 0 0 - 1)).1) (s0 := (nI 0, nI (pc (met8 s.1 (dr s.1 s.2.1) (Nat.testBit 0))), (1 : Int32), μ0)) ⟨rfl, rfl, rfl, k2⟩ ?_ ?_
    · obtain ⟨r, q1, q2⟩ := key
      exact ⟨r.2, by rw [q1, ob, q2]⟩
    · rintro j ⟨s1, s2, s3, ν⟩ hj ⟨e1, e2, e3, hS⟩
      replace e1 : s1 = _ := e1
      replace e2 : s2 = _ := e2
      replace e3 : s3 = _ := e3
      replace hS : Sp X c s.1 (dr s.1 s.2.1) ν := hS
      subst e1; subst e2; subst e3
      have hle := planS_le s.1 (dr s.1 s.2.1) j
      obtain ⟨ν', q1, q2⟩ := c_wishesMet ok od hS (by omega : j + 1 < 256)
      have hp1 := pc_le _ (met8_lt s.1 (dr s.1 s.2.1) (Nat.testBit (j + 1)))
      have hp2 := pc_le (j + 1) (by omega)
      have hp3 := pc_le (planS s.1 (dr s.1 s.2.1) j).1 (by omega)
      have d1 : (nI (pc (planS s.1 (dr s.1 s.2.1) j).1) ≤ nI (pc (j + 1))) = (pc (planS s.1 (dr s.1 s.2.1) j).1 ≤ pc (j + 1)) := nI_le_i (by omega) (by omega)
      have d2 : (nI (planS s.1 (dr s.1 s.2.1) j).2 < nI (pc (met8 s.1 (dr s.1 s.2.1) (Nat.testBit (j + 1))))) = ((planS s.1 (dr s.1 s.2.1) j).2 < pc (met8 s.1 (dr s.1 s.2.1) (Nat.testBit (j + 1)))) := nI_lt_i (by omega) (by omega)
      have d3 : (nI (pc (met8 s.1 (dr s.1 s.2.1) (Nat.testBit (j + 1)))) = nI (planS s.1 (dr s.1 s.2.1) j).2) = (pc (met8 s.1 (dr s.1 s.2.1) (Nat.testBit (j + 1))) = (planS s.1 (dr s.1 s.2.1) j).2) := nI_eq_i (by omega) (by omega)
      have hone : ((1 : Int32) = 0) = False := by decide
      simp only [f_X10_plan_L24, f_X10_plan_J63, f_X10_plan_J82, f_X10_plan_J87]
      rw [cb_p hS.1, ob, ct_n (cb_w hS.1) hS.2.1, ob, b_one (by omega), if_neg (by rw [nI_le_i (by omega) (by omega)]; omega), q1, ob]
      simp only [e_bc (met8_lt s.1 (dr s.1 s.2.1) (Nat.testBit (j + 1))), e_bc (show j + 1 < 256 by omega), e_bc (show (planS s.1 (dr s.1 s.2.1) j).1 < 256 by omega), ob, nI_1, d1, d2, d3, hone, if_false, if_true]
      rw [planS_s]
      generalize pc (met8 s.1 (dr s.1 s.2.1) (Nat.testBit (j + 1))) = m
      generalize planS s.1 (dr s.1 s.2.1) j = z
      by_cases c1 : z.2 < m
      · have cc : z.2 < m ∨ (m = z.2 ∧ pc (j + 1) < pc z.1) := Or.inl c1
        simp only [if_pos c1, if_pos cc, ite_self]
        exact ⟨_, rfl, rfl, rfl, rfl, q2⟩
      · by_cases c2 : m = z.2
        · by_cases c3 : pc z.1 ≤ pc (j + 1)
          · have cc : ¬ (z.2 < m ∨ (m = z.2 ∧ pc (j + 1) < pc z.1)) := by omega
            simp only [if_neg c1, if_pos c2, if_pos c3, if_neg cc]
            exact ⟨_, rfl, rfl, rfl, rfl, q2⟩
          · have cc : z.2 < m ∨ (m = z.2 ∧ pc (j + 1) < pc z.1) := Or.inr ⟨c2, by omega⟩
            simp only [if_neg c1, if_pos c2, if_neg c3, if_pos cc]
            exact ⟨_, rfl, rfl, rfl, rfl, q2⟩
        · have cc : ¬ (z.2 < m ∨ (m = z.2 ∧ pc (j + 1) < pc z.1)) := by omega
          simp only [if_neg c1, if_neg c2, if_neg cc, ite_self]
          exact ⟨_, rfl, rfl, rfl, rfl, q2⟩
    · rintro ⟨s1, s2, s3, ν⟩ ⟨e1, e2, e3, hS⟩
      replace e1 : s1 = _ := e1
      replace e3 : s3 = nI (2 ^ s.1 0 0 - 1 + 1) := e3
      replace hS : Sp X c s.1 (dr s.1 s.2.1) ν := hS
      subst e3
      refine ⟨(s1, ν), ?_, e1⟩
      simp only [f_X10_plan_L24]
      rw [cb_p hS.1, ob, ct_n (cb_w hS.1) hS.2.1, ob, b_one (by omega), if_pos (nI_le (by omega) (by omega))]
  obtain ⟨μ1, hx⟩ := hx
  have hst := IC_sp h (p_X10_plan hx) (t_X10_plan hx) (fun q k1 k2 k3 => i_X10_plan hx (fr_sp h1 k1 k2 k3)) (fun q => j_X10_plan hx)
  refine both h0 hR hx hst.1 hst.2 (fun hν => ?_)
  unfold f_X11_plan
  rw [if_pos (by rw [mk_90 hν.1])]
  have key := whl_i (body := f_X11_plan_L6 (X + 90)) (2 ^ s.1 0 0) (fun j (st : Int32 × Int32 × Int32 × Mm) => (st.1 = if j = 0 then -1 else nI (planS s.1 (dr s.1 s.2.1) (j - 1)).1) ∧ (j ≠ 0 → st.2.1 = nI (planS s.1 (dr s.1 s.2.1) (j - 1)).2) ∧ st.2.2.1 = nI j ∧ IR X s st.2.2.2 ∧ ChM X μ1 st.2.2.2) (Q := fun r => r.1 = nI (planS s.1 (dr s.1 s.2.1) (2 ^ s.1 0 0 - 1)).1 ∧ IR X s r.2 ∧ ChM X μ1 r.2) (s0 := ((-1 : Int32), (0 : Int32), (0 : Int32), μ1)) ⟨rfl, fun q => absurd rfl q, rfl, hν, ChM_r _ _⟩ ?_ ?_
  · obtain ⟨r, q1, q2, q3⟩ := key
    exact ⟨r.2, by rw [q1, ob, q2], q3⟩
  · rintro j ⟨s1, s2, s3, ν⟩ hj ⟨e1, e2, e3, hI, hC⟩
    replace e1 : s1 = _ := e1
    replace e3 : s3 = nI j := e3
    replace hI : IR X s ν := hI
    replace hC : ChM X μ1 ν := hC
    subst e3
    obtain ⟨π, q1, q2, q3⟩ := r_metBy ok ht hI (by omega : j < 256)
    have q4 := ChM_t hC q3
    have hp1 := pc_le _ (met8_lt s.1 (dr s.1 s.2.1) (Nat.testBit j))
    simp only [f_X11_plan_L6, f_X11_plan_J55, f_X11_plan_J60]
    rw [r_isSet hI.1 hI.2.1.1 ok, ob, bz_if, if_pos (inR_nI hj (by omega)), q1, ob, e_bits (met8_lt _ _ _), ob]
    by_cases ej : j = 0
    · subst ej
      replace e1 : s1 = -1 := e1
      rw [e1, if_pos rfl, ob, nI_1]
      exact ⟨_, rfl, rfl, fun _ => rfl, rfl, q2, q4⟩
    · obtain ⟨k, rfl⟩ : ∃ k, j = k + 1 := ⟨j - 1, by omega⟩
      have e11 : s1 = nI (planS s.1 (dr s.1 s.2.1) k).1 := by rw [e1, if_neg ej]; rfl
      have e22 : s2 = nI (planS s.1 (dr s.1 s.2.1) k).2 := e2 ej
      clear e1 e2
      have hle := planS_le s.1 (dr s.1 s.2.1) k
      have hp2 := pc_le (k + 1) (by omega)
      have hp3 := pc_le (planS s.1 (dr s.1 s.2.1) k).1 (by omega)
      rw [e11, e22, if_neg (neg1_ne (by omega))]
      simp only [e_bits (show k + 1 < 256 by omega), e_bits (show (planS s.1 (dr s.1 s.2.1) k).1 < 256 by omega), ob, nI_1, show (nI (pc (met8 s.1 (dr s.1 s.2.1) (Nat.testBit (k + 1)))) < nI (planS s.1 (dr s.1 s.2.1) k).2) = (pc (met8 s.1 (dr s.1 s.2.1) (Nat.testBit (k + 1))) < (planS s.1 (dr s.1 s.2.1) k).2) from nI_lt_i (by omega) (by omega), show (nI (pc (met8 s.1 (dr s.1 s.2.1) (Nat.testBit (k + 1)))) = nI (planS s.1 (dr s.1 s.2.1) k).2) = (pc (met8 s.1 (dr s.1 s.2.1) (Nat.testBit (k + 1))) = (planS s.1 (dr s.1 s.2.1) k).2) from nI_eq_i (by omega) (by omega), show (nI (pc (k + 1)) < nI (pc (planS s.1 (dr s.1 s.2.1) k).1)) = (pc (k + 1) < pc (planS s.1 (dr s.1 s.2.1) k).1) from nI_lt_i (by omega) (by omega)]
      have hps := planS_s s.1 (dr s.1 s.2.1) k
      by_cases c0 : pc (met8 s.1 (dr s.1 s.2.1) (Nat.testBit (k + 1))) < (planS s.1 (dr s.1 s.2.1) k).2
      · rw [if_neg (by omega)] at hps
        rw [if_pos c0]
        exact ⟨_, rfl, by show _ = if _ then _ else nI (planS _ _ (k + 1)).1; rw [if_neg (by omega), hps], fun _ => by show _ = nI (planS _ _ (k + 1)).2; rw [hps], rfl, q2, q4⟩
      · rw [if_neg c0]
        by_cases c1 : pc (met8 s.1 (dr s.1 s.2.1) (Nat.testBit (k + 1))) = (planS s.1 (dr s.1 s.2.1) k).2
        · rw [if_pos c1]
          by_cases c2 : pc (k + 1) < pc (planS s.1 (dr s.1 s.2.1) k).1
          · rw [if_pos (Or.inr ⟨c1, c2⟩)] at hps
            rw [if_pos c2]
            exact ⟨_, rfl, by show _ = if _ then _ else nI (planS _ _ (k + 1)).1; rw [if_neg (by omega), hps], fun _ => by show _ = nI (planS _ _ (k + 1)).2; rw [hps], rfl, q2, q4⟩
          · rw [if_neg (by omega)] at hps
            rw [if_neg c2]
            exact ⟨_, rfl, by show _ = if _ then _ else nI (planS _ _ (k + 1)).1; rw [if_neg (by omega), hps], fun _ => by show _ = nI (planS _ _ (k + 1)).2; rw [hps], rfl, q2, q4⟩
        · rw [if_pos (Or.inl (by omega))] at hps
          rw [if_neg c1]
          exact ⟨_, rfl, by show _ = if _ then _ else nI (planS _ _ (k + 1)).1; rw [if_neg (by omega), hps], fun _ => by show _ = nI (planS _ _ (k + 1)).2; rw [hps], rfl, q2, q4⟩
  · rintro ⟨s1, s2, s3, ν⟩ ⟨e1, e2, e3, hI, hC⟩
    replace e1 : s1 = _ := e1
    replace e3 : s3 = nI (2 ^ s.1 0 0) := e3
    replace hI : IR X s ν := hI
    replace hC : ChM X μ1 ν := hC
    subst e3
    rw [if_neg (by omega)] at e1
    refine ⟨(s1, ν), ?_, e1, hI, hC⟩
    simp only [f_X11_plan_L6]
    rw [r_isSet hI.1 hI.2.1.1 ok, ob, bz_if, if_neg (fun q => by have := q.2; rw [nI_toInt (by omega)] at this; omega)]
theorem k_kept (a1 a2 a3 : Int32) (h0 : mm_K μ b = (19, L) ∧ mm_I μ b = xs ∧ b < X) (h : IC X i c s μ) (hR : IR X s μ) : ∃ r μ1 μ2, f_X10_kept X a1 a2 a3 μ = some (r, μ1) ∧ f_X11_kept (X + 90) a1 a2 a3 μ1 = some (r, μ2) ∧ Inv b L xs X (i + 1) μ2 ∧ (mm_K μ1 b = (19, L) ∧ mm_I μ1 b = xs) := by
  have h1 := h.1.1
  obtain ⟨ok, ht, hct, -, hsp, h15⟩ := h.2.1
  have od := dr_ok ok ht
  have hn := ok.1.1
  have hn1 := ok.1.2.1
  have h2 := p2_8 hn
  by_cases e : inR a1 (s.1 0 0) ∧ inR a2 (s.1 0 1) ∧ inR a3 28
  · obtain ⟨e1, e2, e3⟩ := e
    obtain ⟨p, hp, rfl⟩ := inR_ex e1 (by omega)
    obtain ⟨f, hf, rfl⟩ := inR_ex e2 (by omega)
    obtain ⟨day, hd, rfl⟩ := inR_ex e3 (by decide)
    obtain ⟨g1, g2⟩ := sp_tr h s.2.1 ht
    have hx : ∃ μ1, f_X10_kept X (nI p) (nI f) (nI day) μ = some (oI (keptS s.1 (dr s.1 s.2.1) p f day (2 ^ s.1 0 0)), μ1) := by
      unfold f_X10_kept
      rw [if_pos (by rw [mk_0 h1]), cb_p h.1, ob, e_isPerson' (cb_w h.1) hct ok, ob, bz_if, if_pos e1, ob, e_isFact' (cb_w h.1) hct ok, ob, bz_if, if_pos e2, c_isDay, ob, bz_if, if_pos e3, rp_0_3 h1, ob, rf_0 h1, ob, h15, g1, ob]
      have key := whl_i (body := f_X10_kept_L53 X (nI p) (nI f) (nI day)) (2 ^ s.1 0 0) (fun j (st : Int32 × Int32 × Int32 × Mm) => st.1 = oI (keptS s.1 (dr s.1 s.2.1) p f day j) ∧ st.2.1 = nI (fo pc 9 (keptS s.1 (dr s.1 s.2.1) p f day j)) ∧ st.2.2.1 = nI j ∧ Sp X c s.1 (dr s.1 s.2.1) st.2.2.2) (Q := fun r => r.1 = oI (keptS s.1 (dr s.1 s.2.1) p f day (2 ^ s.1 0 0))) (s0 := ((-1 : Int32), (9 : Int32), (0 : Int32), m_tr X (dr s.1 s.2.1) μ)) ⟨rfl, rfl, rfl, g2⟩ ?_ ?_
      · obtain ⟨r, q1, q2⟩ := key
        exact ⟨r.2, by rw [q1, ob, q2]⟩
      · rintro j ⟨s1, s2, s3, ν⟩ hj ⟨q1, q2, q3, hS⟩
        replace q1 : s1 = _ := q1
        replace q2 : s2 = _ := q2
        replace q3 : s3 = nI j := q3
        replace hS : Sp X c s.1 (dr s.1 s.2.1) ν := hS
        subst q1; subst q2; subst q3
        obtain ⟨k1, k2, k3⟩ := sp_sf (v := 7) (us := j.testBit) ok hS hf (by decide)
        rw [bm_tb (n := 8) (by omega)] at k1
        have hp1 := pc_le j (by omega)
        simp only [f_X10_kept_L53, f_X10_kept_J100]
        rw [cb_p hS.1, ob, ct_n (cb_w hS.1) hS.2.1, ob, b_one (by omega), if_neg (by rw [nI_le_i (by omega) (by omega)]; omega), e_bc (by omega), ob, ob, nI_1]
        have hkb : f_X10_isKeptBy X (nI j) (nI p) (nI f) (nI day) ν = some (nI (!c_beh s.1 (dr s.1 s.2.1) (Nat.testBit 7) j.testBit f (day + 1) p).toNat, m_sf X s.1 f (Nat.testBit 7) j.testBit ν) := by
          unfold f_X10_isKeptBy
          rw [if_pos (by rw [mk_0 hS.1.1]), rp_0_3 hS.1.1, ob, show (7 : Int32) = nI 7 from rfl, k1, ob, rp_0_3 k2.1.1, ob, e_behind k2.1.1 ok od k2.2.2.1 k2.2.2.2 k3 hf hd, ob, bmb (by omega) (by decide)]
          cases c_beh s.1 (dr s.1 s.2.1) (Nat.testBit 7) j.testBit f (day + 1) p <;> rfl
        rw [hkb, ob, e_bc (by omega), ob]
        have hks : keptS s.1 (dr s.1 s.2.1) p f day (j + 1) = match keptS s.1 (dr s.1 s.2.1) p f day j with
          | none => if c_beh s.1 (dr s.1 s.2.1) (Nat.testBit 7) j.testBit f (day + 1) p then none else some j
          | some b => if pc j < pc b ∧ c_beh s.1 (dr s.1 s.2.1) (Nat.testBit 7) j.testBit f (day + 1) p = false then some j else some b := rfl
        cases ek : keptS s.1 (dr s.1 s.2.1) p f day j with
        | none =>
          rw [ek] at hks
          rw [if_neg (by show ¬ nI 9 ≤ _; rw [nI_le_i (by omega) (by omega)]; omega)]
          cases ec : c_beh s.1 (dr s.1 s.2.1) (Nat.testBit 7) j.testBit f (day + 1) p with
          | true =>
            have hks : keptS s.1 (dr s.1 s.2.1) p f day (j + 1) = none := by rw [hks]; simp [ec]
            rw [if_pos (show nI (!true).toNat = 0 from rfl)]
            exact ⟨_, rfl, by rw [hks], by rw [hks], rfl, k2⟩
          | false =>
            have hks : keptS s.1 (dr s.1 s.2.1) p f day (j + 1) = some j := by rw [hks]; simp [ec]
            rw [if_neg (show ¬ nI (!false).toNat = 0 by decide)]
            exact ⟨_, rfl, by rw [hks]; rfl, by rw [hks]; rfl, rfl, k2⟩
        | some b' =>
          rw [ek] at hks
          have hb' := keptS_lt j b' ek
          have hp2 := pc_le b' (by omega)
          by_cases c1 : pc b' ≤ pc j
          · have hks : keptS s.1 (dr s.1 s.2.1) p f day (j + 1) = some b' := by rw [hks]; dsimp only; rw [if_neg (by omega)]
            rw [if_pos (by show nI (pc b') ≤ _; exact nI_le c1 (by omega))]
            exact ⟨_, rfl, by rw [hks], by rw [hks], rfl, hS⟩
          · rw [if_neg (by show ¬ nI (pc b') ≤ _; rw [nI_le_i (by omega) (by omega)]; exact c1)]
            cases ec : c_beh s.1 (dr s.1 s.2.1) (Nat.testBit 7) j.testBit f (day + 1) p with
            | true =>
              have hks : keptS s.1 (dr s.1 s.2.1) p f day (j + 1) = some b' := by rw [hks]; simp [ec]
              rw [if_pos (show nI (!true).toNat = 0 from rfl)]
              exact ⟨_, rfl, by rw [hks], by rw [hks], rfl, k2⟩
            | false =>
              have hks : keptS s.1 (dr s.1 s.2.1) p f day (j + 1) = some j := by rw [hks]; dsimp only; rw [if_pos ⟨by omega, ec⟩]
              rw [if_neg (show ¬ nI (!false).toNat = 0 by decide)]
              exact ⟨_, rfl, by rw [hks]; rfl, by rw [hks]; rfl, rfl, k2⟩
      · rintro ⟨s1, s2, s3, ν⟩ ⟨q1, q2, q3, hS⟩
        replace q1 : s1 = _ := q1
        replace q3 : s3 = nI (2 ^ s.1 0 0) := q3
        replace hS : Sp X c s.1 (dr s.1 s.2.1) ν := hS
        subst q3
        refine ⟨(s1, ν), ?_, q1⟩
        simp only [f_X10_kept_L53]
        rw [cb_p hS.1, ob, ct_n (cb_w hS.1) hS.2.1, ob, b_one (by omega), if_pos (nI_le (Nat.le_refl _) (by omega))]
    obtain ⟨μ1, hx⟩ := hx
    have hst := IC_sp h (p_X10_kept hx) (t_X10_kept hx) (fun q k1 k2 k3 => i_X10_kept hx (fr_sp h1 k1 k2 k3)) (fun q => j_X10_kept hx)
    refine both h0 hR hx hst.1 hst.2 (fun hν => ?_)
    unfold f_X11_kept
    rw [if_pos (by rw [mk_90 hν.1]), r_isPerson hν.1 hν.2.1.1 ok, ob, bz_if, if_pos e1, r_isFact hν.1 hν.2.1.1 ok, ob, bz_if, if_pos e2, r_isDay, ob, bz_if, if_pos e3]
    have key := whl_i (body := f_X11_kept_L32 (X + 90) (nI p) (nI f) (nI day)) (2 ^ s.1 0 0) (fun j (st : Int32 × Int32 × Mm) => st.1 = oI (keptS s.1 (dr s.1 s.2.1) p f day j) ∧ st.2.1 = nI j ∧ IR X s (ms_I st.2.2 (X + 90) 37 0) ∧ ChM X μ1 (ms_I st.2.2 (X + 90) 37 0)) (Q := fun r => r.1 = oI (keptS s.1 (dr s.1 s.2.1) p f day (2 ^ s.1 0 0)) ∧ IR X s (ms_I r.2 (X + 90) 37 0) ∧ ChM X μ1 (ms_I r.2 (X + 90) 37 0)) (s0 := ((-1 : Int32), (0 : Int32), μ1)) ⟨rfl, rfl, ?_⟩ ?_ ?_
    · obtain ⟨r, q1, q2, q3, q4⟩ := key
      rw [q1, ob]
      unfold f_X11_kept_J113
      have hs9 : Sh X r.2 := q3.1
      rw [wf_90 hs9, ob, q2]
      exact ⟨_, rfl, q3, q4⟩
    · have : ms_I μ1 (X + 90) 37 0 = μ1 := by
        rw [sI_A]
        have : u1 (mm_I μ1 (X + 90)) 37 0 = mm_I μ1 (X + 90) := by
          funext k
          by_cases ek : k = 37
          · rw [ek, u1_s, hν.2.1.2.2.2.2.1]
          · rw [u1_n _ _ ek]
        rw [this, sA_id]
      show IR X s (ms_I μ1 (X + 90) 37 0) ∧ _
      rw [this]
      exact ⟨hν, ChM_r _ _⟩
    · rintro j ⟨s1, s2, ν⟩ hj ⟨q1, q2, hI, hC⟩
      replace q1 : s1 = _ := q1
      replace q2 : s2 = nI j := q2
      replace hI : IR X s (ms_I ν (X + 90) 37 0) := hI
      replace hC : ChM X μ1 (ms_I ν (X + 90) 37 0) := hC
      subst q1; subst q2
      have hSν : Sh X ν := hI.1
      have hMν : MTn (X + 90) 0 s.1 ν := mtn_x (fun q g1 g2 => by rw [iI, if_neg (by omega)]) hI.2.1.1
      have hS2 : Sh X (ms_I ν (X + 90) 37 (nI j)) := hSν
      have hM2 := m37_m (v := nI j) hMν
      have r33 : mm_I (ms_I ν (X + 90) 37 (nI j)) (X + 90) 33 = nI s.2.1 := by
        have := hI.2.1.2.2.2.1
        rw [rI, if_neg (by omega)] at this ⊢
        exact this
      have hrow : ga_L (X + 110) (nI s.2.1) (ms_I ν (X + 90) 37 (nI j)) = some (lN (rwT s.1 s.2.1)) := by
        have := EN_len ok
        rw [ra_110 hS2 (by omega)]
        exact congrArg some (hI.2.1.2.2.2.2.2 s.2.1 ht)
      have h37 : mm_I (ms_I ν (X + 90) 37 (nI j)) (X + 90) 37 = nI (bm j.testBit 8) := by rw [rI, if_pos ⟨rfl, rfl⟩, bm_tb (n := 8) (by omega)]
      obtain ⟨a, hl⟩ := e_live (us := j.testBit) (v := 7) hS2 hM2 ok od (dr_R ok ht) h37 hd (by decide) true
      replace hl : f_X11_live (X + 90) (lN (rwT s.1 s.2.1)) (nI day) 7 1 (ms_I ν (X + 90) 37 (nI j)) = some (m_kn X (k_run s.1 (dr s.1 s.2.1) (Nat.testBit 7) j.testBit (k_0, o_fg (mm_I (ms_I ν (X + 90) 37 (nI j)) (X + 90))) (day + 1)) a (ms_I ν (X + 90) 37 (nI j))) := hl
      have hst : IR X s (ms_I (m_kn X (k_run s.1 (dr s.1 s.2.1) (Nat.testBit 7) j.testBit (k_0, o_fg (mm_I (ms_I ν (X + 90) 37 (nI j)) (X + 90))) (day + 1)) a (ms_I ν (X + 90) 37 (nI j))) (X + 90) 37 0) ∧ ChM X μ1 (ms_I (m_kn X (k_run s.1 (dr s.1 s.2.1) (Nat.testBit 7) j.testBit (k_0, o_fg (mm_I (ms_I ν (X + 90) 37 (nI j)) (X + 90))) (day + 1)) a (ms_I ν (X + 90) 37 (nI j))) (X + 90) 37 0) := by
        have hq := IR_kn37 (v := nI j) (κ := k_run s.1 (dr s.1 s.2.1) (Nat.testBit 7) j.testBit (k_0, o_fg (mm_I (ms_I ν (X + 90) 37 (nI j)) (X + 90))) (day + 1)) (a := a) hI (fun k hk => by rw [k_run_o (by omega)]; exact (fg_o (by omega)).trans (by rw [rI, if_neg (by omega), rI, if_neg (by omega)]))
        rw [sI_u] at hq
        exact ⟨hq.1, ChM_t hC hq.2⟩
      have hkq : mm_I (m_kn X (k_run s.1 (dr s.1 s.2.1) (Nat.testBit 7) j.testBit (k_0, o_fg (mm_I (ms_I ν (X + 90) 37 (nI j)) (X + 90))) (day + 1)) a (ms_I ν (X + 90) 37 (nI j))) (X + 111) p = nI (bm ((k_run s.1 (dr s.1 s.2.1) (Nat.testBit 7) j.testBit (k_0, o_fg (mm_I (ms_I ν (X + 90) 37 (nI j)) (X + 90))) (day + 1)).1 p) 12) := kn_k (by omega)
      have hSπ : Sh X (m_kn X (k_run s.1 (dr s.1 s.2.1) (Nat.testBit 7) j.testBit (k_0, o_fg (mm_I (ms_I ν (X + 90) 37 (nI j)) (X + 90))) (day + 1)) a (ms_I ν (X + 90) 37 (nI j))) := kn_s hS2
      have hk1 := k_run_1 (w := Nat.testBit 7) (us := j.testBit) (o := o_fg (mm_I (ms_I ν (X + 90) 37 (nI j)) (X + 90))) ok od (day + 1) p f
      rw [decide_eq_true hf, Bool.true_and] at hk1
      generalize m_kn X (k_run s.1 (dr s.1 s.2.1) (Nat.testBit 7) j.testBit (k_0, o_fg (mm_I (ms_I ν (X + 90) 37 (nI j)) (X + 90))) (day + 1)) a (ms_I ν (X + 90) 37 (nI j)) = π at hl hst hkq hSπ
      generalize k_run s.1 (dr s.1 s.2.1) (Nat.testBit 7) j.testBit (k_0, o_fg (mm_I (ms_I ν (X + 90) 37 (nI j)) (X + 90))) (day + 1) = κ at hkq hk1
      have hlive : ∀ l4 : Int32, f_X11_kept_J67 (X + 90) (nI p) (nI f) (nI day) l4 (nI j) ν = some (.inl (if c_beh s.1 (dr s.1 s.2.1) (Nat.testBit 7) j.testBit f (day + 1) p = false then nI j else l4, nI (j + 1), π)) := by
        intro l4
        unfold f_X11_kept_J67 f_X11_kept_J107
        rw [wf_90 hSν, ob, rp_90_34 hS2, ob, rf_90 hS2, ob, r33, hrow, ob, hl, ob, rp_90_35 hSπ, ob, ra_111 hSπ (by omega), ob, hkq, bmb (by omega) (by decide), hk1, ob, nI_1]
        simp only [nI_b0]
        split <;> rfl
      have hks : keptS s.1 (dr s.1 s.2.1) p f day (j + 1) = match keptS s.1 (dr s.1 s.2.1) p f day j with
        | none => if c_beh s.1 (dr s.1 s.2.1) (Nat.testBit 7) j.testBit f (day + 1) p then none else some j
        | some b => if pc j < pc b ∧ c_beh s.1 (dr s.1 s.2.1) (Nat.testBit 7) j.testBit f (day + 1) p = false then some j else some b := rfl
      simp only [f_X11_kept_L32]
      rw [rp_90_12 hSν, ob, mr_n0 hSν hMν, ob, b_one (by omega), if_neg (by rw [nI_le_i (by omega) (by omega)]; omega)]
      cases ek : keptS s.1 (dr s.1 s.2.1) p f day j with
      | none =>
        rw [ek] at hks
        rw [if_pos (show oI none = -1 from rfl), hlive]
        refine ⟨_, rfl, ?_, rfl, hst⟩
        show _ = oI _
        rw [hks]
        cases ec : c_beh s.1 (dr s.1 s.2.1) (Nat.testBit 7) j.testBit f (day + 1) p <;> simp [ec, oI]
      | some b' =>
        rw [ek] at hks
        have hb' := keptS_lt j b' ek
        have hp1 := pc_le j (by omega)
        have hp2 := pc_le b' (by omega)
        have eo : oI (some b') = nI b' := rfl
        rw [eo, if_neg (neg1_ne (by omega)), e_bits (by omega), ob, e_bits (by omega), ob]
        simp only [show (nI (pc j) < nI (pc b')) = (pc j < pc b') from nI_lt_i (by omega) (by omega)]
        by_cases c1 : pc j < pc b'
        · rw [if_pos c1, hlive]
          refine ⟨_, rfl, ?_, rfl, hst⟩
          show _ = oI _
          rw [hks]
          dsimp only
          cases ec : c_beh s.1 (dr s.1 s.2.1) (Nat.testBit 7) j.testBit f (day + 1) p with
          | true => rw [if_neg (by decide), if_neg (fun q => by cases q.2)]; rfl
          | false => rw [if_pos rfl, if_pos ⟨c1, rfl⟩]; rfl
        · rw [if_neg c1]
          unfold f_X11_kept_J107
          rw [ob, nI_1]
          refine ⟨_, rfl, ?_, rfl, hI, hC⟩
          show _ = oI _
          rw [hks]
          dsimp only
          rw [if_neg (by omega)]; rfl
    · rintro ⟨s1, s2, ν⟩ ⟨q1, q2, hI, hC⟩
      replace q1 : s1 = _ := q1
      replace q2 : s2 = nI (2 ^ s.1 0 0) := q2
      replace hI : IR X s (ms_I ν (X + 90) 37 0) := hI
      replace hC : ChM X μ1 (ms_I ν (X + 90) 37 0) := hC
      subst q2
      have hSν : Sh X ν := hI.1
      have hMν : MTn (X + 90) 0 s.1 ν := mtn_x (fun q g1 g2 => by rw [iI, if_neg (by omega)]) hI.2.1.1
      refine ⟨(s1, ν), ?_, q1, hI, hC⟩
      simp only [f_X11_kept_L32]
      rw [rp_90_12 hSν, ob, mr_n0 hSν hMν, ob, b_one (by omega), if_pos (nI_le (Nat.le_refl _) (by omega))]
  · refine both h0 hR (r := -2) (μ1 := μ) ?_ (IC_up h) (ChC_r _ _) (fun hν => ⟨_, ?_, hν, ChM_r _ _⟩)
    · unfold f_X10_kept
      rw [if_pos (by rw [mk_0 h1]), cb_p h.1, ob, e_isPerson' (cb_w h.1) hct ok, ob, bz_if, ob, e_isFact' (cb_w h.1) hct ok, ob, bz_if, c_isDay, ob, bz_if]
      by_cases e1 : inR a1 (s.1 0 0)
      · rw [if_pos e1]
        by_cases e2 : inR a2 (s.1 0 1)
        · rw [if_pos e2, if_neg (fun e3 => e ⟨e1, e2, e3⟩)]
        · rw [if_neg e2]
      · rw [if_neg e1]
    · unfold f_X11_kept
      rw [if_pos (by rw [mk_90 hν.1]), r_isPerson hν.1 hν.2.1.1 ok, ob, bz_if, r_isFact hν.1 hν.2.1.1 ok, ob, bz_if, r_isDay, ob, bz_if]
      by_cases e1 : inR a1 (s.1 0 0)
      · rw [if_pos e1]
        by_cases e2 : inR a2 (s.1 0 1)
        · rw [if_pos e2, if_neg (fun e3 => e ⟨e1, e2, e3⟩)]
        · rw [if_neg e2]
      · rw [if_neg e1]
end CALLS
