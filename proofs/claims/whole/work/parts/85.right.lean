/-! ===== right; begin, keep, take ===== -/
section CALLS
variable {b L : Nat} {xs : Nat → Int32} {X i c : Nat} {s : Sv} {μ : Mm}
def m_ri (X n w k v : Nat) (μ : Mm) : Mm := ms_I (ms_I (ms_I (ms_I (ms_I (ms_I μ (X + 66) 11 0) (X + 4) 10 (nI w)) (X + 10) n (nI w)) (X + 11) n (nI k)) (X + 12) n (nI v)) (X + 4) 9 (nI (n + 1))
def m_riR (X n w k v : Nat) (μ : Mm) : Mm := ms_I (ms_I (ms_I (ms_I (ms_I μ (X + 90) 48 (nI w)) (X + 121) n (nI w)) (X + 122) n (nI k)) (X + 123) n (nI v)) (X + 90) 47 (nI (n + 1))
theorem e_oftenC {m k : Nat} {g : Nat → Nat} {ν : Mm} (h : Sh X ν) (hm : mm_I ν (X + 4) 9 = nI m) (hm2 : m ≤ 20) (hg : ∀ j, j < m → mm_I ν (X + 11) j = nI (g j) ∧ g j < 100) (hk : k < 100) : whl (f_X0_addRight_L61 (X + 4) (nI k) ν) ((0 : Int32), (0 : Int32)) = some (nI (cntb (fun j => g j == k) m)) := by
  refine whl_c m (fun j => (nI (cntb (fun j => g j == k) j), nI j)) rfl (fun j hj => ?_) ?_
  · simp only [f_X0_addRight_L61, f_X0_addRight_J84]
    rw [rf_4 h, ob, hm, if_neg (by rw [nI_le_i (by omega) (by omega)]; omega), rp_4_6 h, ob, ra_11 h (by omega), ob, (hg j hj).1, ob, ob, ob, nI_1, nI_1]
    have := (hg j hj).2
    show _ = some (Sum.inl (nI (cntb (fun j => g j == k) j + (g j == k).toNat), nI (j + 1)))
    by_cases e : g j = k
    · have e2 : (g j == k) = true := by simpa using e
      rw [if_pos (by rw [e]), e2]; rfl
    · have e2 : (g j == k) = false := by simpa using e
      rw [if_neg (by rw [nI_eq_i (by omega) (by omega)]; exact e), e2]; rfl
  · simp only [f_X0_addRight_L61]
    rw [rf_4 h, ob, hm, if_pos (nI_le (Nat.le_refl _) (by omega))]
theorem e_oftenR {m k : Nat} {g : Nat → Nat} {ν : Mm} (h : Sh X ν) (hm : mm_I ν (X + 90) 47 = nI m) (hm2 : m ≤ 20) (hg : ∀ j, j < m → mm_I ν (X + 122) j = nI (g j) ∧ g j < 100) (hk : k < 100) : whl (f_X11_right_L103 (X + 90) (nI k) ν) ((0 : Int32), (0 : Int32)) = some (nI (cntb (fun j => g j == k) m)) := by
  refine whl_c m (fun j => (nI (cntb (fun j => g j == k) j), nI j)) rfl (fun j hj => ?_) ?_
  · simp only [f_X11_right_L103, f_X11_right_J130]
    rw [rf_90 h, ob, hm, if_neg (by rw [nI_le_i (by omega) (by omega)]; omega), rp_90_55 h, ob, ra_122 h (by omega), ob, (hg j hj).1, ob, ob, ob, nI_1, nI_1]
    have := (hg j hj).2
    show _ = some (Sum.inl (nI (cntb (fun j => g j == k) j + (g j == k).toNat), nI (j + 1)))
    by_cases e : g j = k
    · have e2 : (g j == k) = true := by simpa using e
      rw [if_pos (by rw [e]), e2]; rfl
    · have e2 : (g j == k) = false := by simpa using e
      rw [if_neg (by rw [nI_eq_i (by omega) (by omega)]; exact e), e2, show (0 : Int32) = nI 0 from rfl, nI_add]; rfl
  · simp only [f_X11_right_L103]
    rw [rf_90 h, ob, hm, if_pos (nI_le (Nat.le_refl _) (by omega))]
theorem k_right (a1 a2 a3 : Int32) (h0 : mm_K μ b = (19, L) ∧ mm_I μ b = xs ∧ b < X) (h : IC X i c s μ) (hR : IR X s μ) : ∃ r μ1 μ2, f_X10_right X a1 a2 a3 μ = some (r, μ1) ∧ f_X11_right (X + 90) a1 a2 a3 μ1 = some (r, μ2) ∧ Inv b L xs X (i + 1) μ2 ∧ (mm_K μ1 b = (19, L) ∧ mm_I μ1 b = xs) := by
  have h1 := h.1.1
  obtain ⟨oA, hA⟩ := h.2.2.2.2.1
  have hb := oA.1
  have e10 : f_X10_right X a1 a2 a3 μ = if ((nI (s.2.2.2.2.2.1 8 2) ≤ a1 ∧ a1 ≤ nI 999) ∧ inR a3 2) ∧ inR a2 (s.2.2.2.2.2.1 8 0) then (if s.2.2.2.2.2.1 8 1 = 20 then some (-3, μ) else (f_X0_addRight (X + 4) a1 a2 a3 (ms_I μ (X + 66) 11 0)).bind fun x => some (x.1, x.2)) else some (-2, μ) := by
    unfold f_X10_right f_X0_hasRoomForRight
    simp only [kt_0 h1, kt_4 h1, if_true, rp_0_4 h1, rp_0_5 h1, ob, mayTell h1 hA.1.2.2 hb.2.2, bz_if, rf_4 h1, hA.1.1, hA.1.2.1, wz0_66 h1, rp_0_4 (μ := ms_I μ (X + 66) 11 0) h1, two_ends3 (show s.2.2.2.2.2.1 8 0 < 2 ^ 31 by omega)]
    by_cases cc : ((nI (s.2.2.2.2.2.1 8 2) ≤ a1 ∧ a1 ≤ nI 999) ∧ inR a3 2) ∧ inR a2 (s.2.2.2.2.2.1 8 0)
    · rw [if_pos cc.1, if_pos cc.2, if_pos cc]
      by_cases c5 : s.2.2.2.2.2.1 8 1 = 20
      · have hle : (20 : Int32) ≤ nI (s.2.2.2.2.2.1 8 1) := by rw [c5]; decide
        rw [if_pos hle, ob, if_pos rfl, if_pos c5]
      · have hle : ¬ (20 : Int32) ≤ nI (s.2.2.2.2.2.1 8 1) := by rw [show (20 : Int32) = nI 20 from rfl, nI_le_i (by omega) (by omega)]; omega
        rw [if_neg hle, ob, if_neg (show ¬ (1 : Int32) = 0 by decide), if_neg c5]
    · rw [if_neg cc]
      by_cases c1 : (nI (s.2.2.2.2.2.1 8 2) ≤ a1 ∧ a1 ≤ nI 999) ∧ inR a3 2
      · rw [if_pos c1, if_neg (fun c2 => cc ⟨c1, c2⟩)]
      · rw [if_neg c1]
  have e11 : ∀ ν, IR X s ν → f_X11_right (X + 90) a1 a2 a3 ν = if ((nI (s.2.2.2.2.2.1 8 2) ≤ a1 ∧ a1 ≤ nI 999) ∧ inR a3 2) ∧ inR a2 (s.2.2.2.2.2.1 8 0) then (if s.2.2.2.2.2.1 8 1 = 20 then some (-3, ν) else f_X11_right (X + 90) a1 a2 a3 ν) else some (-2, ν) := by
    intro ν hν
    by_cases cc : ((nI (s.2.2.2.2.2.1 8 2) ≤ a1 ∧ a1 ≤ nI 999) ∧ inR a3 2) ∧ inR a2 (s.2.2.2.2.2.1 8 0)
    · rw [if_pos cc]
      by_cases c5 : s.2.2.2.2.2.1 8 1 = 20
      · rw [if_pos c5]
        unfold f_X11_right
        rw [if_pos (by rw [mk_90 hν.1]), rf_90 hν.1, ob, hν.2.2.2.2.1.1.2.2, show (999 : Int32) = nI 999 from rfl, e_in, ob, bz_if, if_pos cc.1.1, rf_90 hν.1, ob, hν.2.2.2.2.1.1.1, e_inN (by omega), ob, bz_if, if_pos cc.2, show (1 : Int32) = nI 1 from rfl, e_inK (by decide), ob, bz_if, if_pos cc.1.2, rf_90 hν.1, ob, hν.2.2.2.2.1.1.2.1, c5, if_pos (show nI 20 = 20 from rfl)]
      · rw [if_neg c5]
    · rw [if_neg cc]
      unfold f_X11_right
      rw [if_pos (by rw [mk_90 hν.1]), rf_90 hν.1, ob, hν.2.2.2.2.1.1.2.2, show (999 : Int32) = nI 999 from rfl, e_in, ob, bz_if]
      by_cases c1 : nI (s.2.2.2.2.2.1 8 2) ≤ a1 ∧ a1 ≤ nI 999
      · rw [if_pos c1, rf_90 hν.1, ob, hν.2.2.2.2.1.1.1, e_inN (by omega), ob, bz_if]
        by_cases c2 : inR a2 (s.2.2.2.2.2.1 8 0)
        · rw [if_pos c2, show (1 : Int32) = nI 1 from rfl, e_inK (by decide), ob, bz_if, if_neg (fun q => cc ⟨⟨c1, q⟩, c2⟩)]
        · rw [if_neg c2]
      · rw [if_neg c1]
  by_cases cc : ((nI (s.2.2.2.2.2.1 8 2) ≤ a1 ∧ a1 ≤ nI 999) ∧ inR a3 2) ∧ inR a2 (s.2.2.2.2.2.1 8 0)
  · rw [if_pos cc] at e10
    by_cases c5 : s.2.2.2.2.2.1 8 1 = 20
    · rw [if_pos c5] at e10
      exact both h0 hR e10 (IC_up h) (ChC_r _ _) (fun hν => ⟨_, by rw [e11 _ hν, if_pos cc, if_pos c5], hν, ChM_r _ _⟩)
    · rw [if_neg c5] at e10
      obtain ⟨w, hw1, hw2, rfl⟩ := step_ex hb.2.2 cc.1.1
      obtain ⟨k, hk, rfl⟩ := inR_ex cc.2 (by omega)
      obtain ⟨v, hv, rfl⟩ := inR_ex cc.1.2 (by decide)
      have hnr : s.2.2.2.2.2.1 8 1 < 20 := by omega
      have oA' := addR_ok (v := v) oA hnr hw1 hw2 hk (by omega)
      have hCa : Ca X (addR s.2.2.2.2.2.1 w k v) (m_ri X (s.2.2.2.2.2.1 8 1) w k v μ) := by
        obtain ⟨⟨x1, x2, x3⟩, x4, x5⟩ := hA
        unfold Ca addR m_ri
        refine ⟨⟨by simp [rI, x1], by simp [rI], by simp [rI]⟩, fun j hj => ?_, fun j hj => ?_⟩
        · replace hj : j < s.2.2.2.2.2.1 8 0 := hj
          have := x4 j hj
          simp [rI, this]
        · replace hj : j < s.2.2.2.2.2.1 8 1 + 1 := hj
          by_cases ej : j = s.2.2.2.2.2.1 8 1
          · subst ej; simp [rI]
          · have := x5 j (by omega)
            simp [rI, ej, this]
      have hx : f_X10_right X (nI w) (nI k) (nI v) μ = some (nI (cntb (fun j => addR s.2.2.2.2.2.1 w k v 6 j == k) (s.2.2.2.2.2.1 8 1 + 1)), m_ri X (s.2.2.2.2.2.1 8 1) w k v μ) := by
        rw [e10]
        have hof := e_oftenC (X := X) (k := k) (g := addR s.2.2.2.2.2.1 w k v 6) (m := s.2.2.2.2.2.1 8 1 + 1) (ν := m_ri X (s.2.2.2.2.2.1 8 1) w k v μ) h1 hCa.1.2.1 (by omega) (fun j hj => ⟨(hCa.2.2 j hj).2.1, by have := (oA'.2.2.2.1 j hj).2.1; have := oA'.1.1; omega⟩) (by omega)
        have hA0 := hA.1.2.1
        generalize cntb (fun j => addR s.2.2.2.2.2.1 w k v 6 j == k) (s.2.2.2.2.2.1 8 1 + 1) = z at hof
        generalize s.2.2.2.2.2.1 8 1 = n at hA0 hnr hof
        unfold m_ri at hof ⊢
        unfold f_X0_addRight f_X0_hasRoomForRight
        have hle : ¬ (20 : Int32) ≤ nI n := by rw [show (20 : Int32) = nI 20 from rfl, nI_le_i (by omega) (by omega)]; omega
        have hone : ((1 : Int32) = 0) = False := by decide
        simp (maxDischargeDepth := 30) only [kt_4, rf_4, rp_4_5, rp_4_6, rp_4_7, wf_4, wa_10, wa_11, wa_12, shI', h1, ob, if_true, rI, Nat.add_left_cancel_iff, hA0, hnr, hle, if_false, hone, false_and, and_false, Nat.reduceEqDiff, and_true, nI_1, true_and, hof]
      refine both h0 hR hx (IC_up (IC_ac (A' := addR s.2.2.2.2.2.1 w k v) (by rfl) (by rfl) ?_ ?_ ?_ ?_ (by rfl) oA' hCa h)) ?_ (fun hν => ⟨m_riR X (s.2.2.2.2.2.1 8 1) w k v (m_ri X (s.2.2.2.2.2.1 8 1) w k v μ), ?_, ?_, ?_⟩)
      · intro q g1 g2
        funext j
        unfold m_ri
        simp only [rI]
        repeat rw [if_neg (by omega)]
      · unfold m_ri; simp [rI]
      · unfold m_ri; simp [rI]
      · unfold m_ri; simp [rI]
      · refine ⟨fun q hq => ?_, fun _ _ => rfl, fun q hq => ⟨?_, rfl⟩⟩
        · funext j
          unfold inM at hq
          unfold m_ri
          simp only [rI]
          repeat rw [if_neg (by omega)]
        · funext j
          unfold m_ri
          simp only [rI]
          repeat rw [if_neg (by omega)]
      · have hRa : Ra X (addR s.2.2.2.2.2.1 w k v) (m_riR X (s.2.2.2.2.2.1 8 1) w k v (m_ri X (s.2.2.2.2.2.1 8 1) w k v μ)) := by
          obtain ⟨⟨x1, x2, x3⟩, x4, x5⟩ := hν.2.2.2.2.1
          generalize m_ri X (s.2.2.2.2.2.1 8 1) w k v μ = ν at x1 x2 x3 x4 x5
          unfold Ra addR m_riR
          refine ⟨⟨by simp [rI, x1], by simp [rI], by simp [rI]⟩, fun j hj => ?_, fun j hj => ?_⟩
          · replace hj : j < s.2.2.2.2.2.1 8 0 := hj
            have := x4 j hj
            simp [rI, this]
          · replace hj : j < s.2.2.2.2.2.1 8 1 + 1 := hj
            by_cases ej : j = s.2.2.2.2.2.1 8 1
            · subst ej; simp [rI]
            · have := x5 j (by omega)
              simp [rI, ej, this]
        have hof := e_oftenR (X := X) (k := k) (g := addR s.2.2.2.2.2.1 w k v 6) (m := s.2.2.2.2.2.1 8 1 + 1) (ν := m_riR X (s.2.2.2.2.2.1 8 1) w k v (m_ri X (s.2.2.2.2.2.1 8 1) w k v μ)) hν.1 hRa.1.2.1 (by omega) (fun j hj => ⟨(hRa.2.2 j hj).2.1, by have := (oA'.2.2.2.1 j hj).2.1; have := oA'.1.1; omega⟩) (by omega)
        have hA0 := hν.2.2.2.2.1.1.1
        have hA1 := hν.2.2.2.2.1.1.2.1
        have h9 := hν.1
        have h48 := hν.2.2.2.2.1.1.2.2
        generalize cntb (fun j => addR s.2.2.2.2.2.1 w k v 6 j == k) (s.2.2.2.2.2.1 8 1 + 1) = z at hof
        generalize m_ri X (s.2.2.2.2.2.1 8 1) w k v μ = ν at hA0 h9 h48 hA1 hof
        unfold f_X11_right
        rw [if_pos (by rw [mk_90 h9]), rf_90 h9, ob, h48, show (999 : Int32) = nI 999 from rfl, e_in, ob, bz_if, if_pos cc.1.1, rf_90 h9, ob, hA0, e_inN (by omega), ob, bz_if, if_pos cc.2, show (1 : Int32) = nI 1 from rfl, e_inK (by decide), ob, bz_if, if_pos cc.1.2, rf_90 h9, ob, hA1]
        generalize s.2.2.2.2.2.1 8 1 = n at hA1 hnr c5 hof
        have hne : ¬ nI n = (20 : Int32) := by rw [show (20 : Int32) = nI 20 from rfl, nI_eq_i (by omega) (by omega)]; exact c5
        unfold m_riR at hof ⊢
        simp (maxDischargeDepth := 30) only [rf_90, rp_90_54, rp_90_55, rp_90_56, wf_90, wa_121, wa_122, wa_123, shI', h9, ob, rI, Nat.add_left_cancel_iff, hA1, hnr, hne, if_false, false_and, and_false, Nat.reduceEqDiff, and_true, nI_1, true_and, if_true, nI_add, hof]
      · refine IR_ac (A' := addR s.2.2.2.2.2.1 w k v) hν.1 (fun j j1 j2 j3 => ?_) (fun q q1 q2 q3 => ?_) (fun _ _ => by rfl) ?_ hν
        · unfold m_riR
          simp [rI, j2, j3]
        · funext j
          unfold inM at q1
          unfold m_riR
          simp only [rI]
          repeat rw [if_neg (by omega)]
        · obtain ⟨⟨x1, x2, x3⟩, x4, x5⟩ := hν.2.2.2.2.1
          generalize m_ri X (s.2.2.2.2.2.1 8 1) w k v μ = ν at x1 x2 x3 x4 x5
          unfold Ra addR m_riR
          refine ⟨⟨by simp [rI, x1], by simp [rI], by simp [rI]⟩, fun j hj => ?_, fun j hj => ?_⟩
          · replace hj : j < s.2.2.2.2.2.1 8 0 := hj
            have := x4 j hj
            simp [rI, this]
          · replace hj : j < s.2.2.2.2.2.1 8 1 + 1 := hj
            by_cases ej : j = s.2.2.2.2.2.1 8 1
            · subst ej; simp [rI]
            · have := x5 j (by omega)
              simp [rI, ej, this]
      · refine ⟨fun q hq => ?_, fun _ _ => rfl, rfl, rfl⟩
        funext j
        unfold inM at hq
        unfold m_riR
        simp only [rI]
        repeat rw [if_neg (by omega)]
  · rw [if_neg cc] at e10
    exact both h0 hR e10 (IC_up h) (ChC_r _ _) (fun hν => ⟨_, by rw [e11 _ hν, if_neg cc], hν, ChM_r _ _⟩)
end CALLS
