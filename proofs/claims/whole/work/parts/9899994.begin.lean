/-! ===== the start: both stand, and nothing is told yet ===== -/
def s_0 : Sv := (D0, 0, 0, (fun _ => 0), ((0 : Int32), (-1 : Int32)), A0, R0)
theorem en_0 : 0 < (EN D0).length := by decide +kernel
section BEG
variable {b L : Nat} {xs : Nat → Int32} {S : Nat → Nat} {X : Nat} {ρ : Mm}
theorem b_m0 (hb : b < X) : mn_C (m_0 b L xs S X) 11 0 = Mx X 0 (m_0 b L xs S X) 1 17 0 0 := by
  have e1 : u1 (mm_I (m_0 b L xs S X)) X (fun _ => 0) = mm_I (Mx X 0 (m_0 b L xs S X) 1 17 0 0) := by
    funext a
    show _ = if X + 0 ≤ a then (fun k => lki 0 (a - X) k) else mm_I (m_0 b L xs S X) a
    by_cases e : a = X
    · rw [e, u1_s, if_pos (by omega)]
      rfl
    · rw [u1_n _ _ e]
      by_cases y : X + 0 ≤ a
      · rw [if_pos y]
        show (if a = b then xs else fun _ => 0) = _
        rw [if_neg (by omega)]
        rfl
      · rw [if_neg y]
  have e2 : u1 (mm_L (m_0 b L xs S X)) X (fun _ => 0) = mm_L (Mx X 0 (m_0 b L xs S X) 1 17 0 0) := by
    funext a
    show _ = if X + 0 ≤ a then (fun _ => (0 : Int64)) else fun _ => 0
    by_cases e : a = X
    · rw [e, u1_s, if_pos (by omega)]
    · rw [u1_n _ _ e]
      by_cases y : X + 0 ≤ a
      · rw [if_pos y]; rfl
      · rw [if_neg y]; rfl
  have e3 : u1 (mm_P (m_0 b L xs S X)) X (fun _ => none) = mm_P (Mx X 0 (m_0 b L xs S X) 1 17 0 0) := by
    funext a
    show _ = if X + 0 ≤ a then (fun k => (lkp 0 (a - X) k).map (fun v => X + v)) else fun _ => none
    by_cases e : a = X
    · rw [e, u1_s, if_pos (by omega)]
      rfl
    · rw [u1_n _ _ e]
      by_cases y : X + 0 ≤ a
      · rw [if_pos y]; rfl
      · rw [if_neg y]; rfl
  have e4 : u1 (mm_K (m_0 b L xs S X)) X (11, 0) = mm_K (Mx X 0 (m_0 b L xs S X) 1 17 0 0) := by
    funext a
    show _ = if X + 0 ≤ a ∧ a < X + 1 then kt (a - X) else mm_K (m_0 b L xs S X) a
    by_cases e : a = X
    · rw [e, u1_s, if_pos ⟨by omega, by omega⟩, Nat.sub_self]
      rfl
    · rw [u1_n _ _ e, if_neg (by omega)]
  show (u1 (mm_I (m_0 b L xs S X)) X (fun _ => 0), u1 (mm_L (m_0 b L xs S X)) X (fun _ => 0), u1 (mm_P (m_0 b L xs S X)) X (fun _ => none), u1 (mm_K (m_0 b L xs S X)) X (11, 0), S, X + 1, 0 + 17) = _
  rw [e1, e2, e3, e4]
  rfl
theorem b_m1 (hN : mm_N ρ = X + 90) (hZ : mm_Z ρ = 2667) (hI : ∀ a, X + 90 ≤ a → mm_I ρ a = fun _ => 0) (hP : ∀ a, X + 90 ≤ a → mm_P ρ a = fun _ => none) (hL : ∀ a, X + 90 ≤ a → mm_L ρ a = fun _ => 0) : mn_C ρ 12 0 = Mx X 90 ρ 91 2740 96 1 := by
  have l0 : ∀ j k, 90 ≤ j → lkp 96 j k = none := fun j k hj => lkp_n (fun e he => Nat.lt_of_lt_of_le ((by decide +kernel : ∀ e ∈ pw.take 96, e.1 < 90) e he) hj) k
  have i0 : ∀ j k, 90 ≤ j → lki 1 j k = 0 := fun j k hj => lki_n (fun e he => Nat.lt_of_lt_of_le ((by decide +kernel : ∀ e ∈ iw.take 1, e.1 < 90) e he) hj) k
  have e1 : u1 (mm_I ρ) (mm_N ρ) (fun _ => 0) = mm_I (Mx X 90 ρ 91 2740 96 1) := by
    funext a
    show _ = if X + 90 ≤ a then (fun k => lki 1 (a - X) k) else mm_I ρ a
    rw [hN]
    by_cases y : X + 90 ≤ a
    · rw [if_pos y]
      have z : (fun k => lki 1 (a - X) k) = fun _ => 0 := by
        funext k
        exact i0 _ _ (by omega)
      rw [z]
      by_cases e : a = X + 90
      · rw [e, u1_s]
      · rw [u1_n _ _ e, hI a y]
    · rw [if_neg y, u1_n _ _ (by omega)]
  have e2 : u1 (mm_L ρ) (mm_N ρ) (fun _ => 0) = mm_L (Mx X 90 ρ 91 2740 96 1) := by
    funext a
    show _ = if X + 90 ≤ a then (fun _ => (0 : Int64)) else mm_L ρ a
    rw [hN]
    by_cases y : X + 90 ≤ a
    · rw [if_pos y]
      by_cases e : a = X + 90
      · rw [e, u1_s]
      · rw [u1_n _ _ e, hL a y]
    · rw [if_neg y, u1_n _ _ (by omega)]
  have e3 : u1 (mm_P ρ) (mm_N ρ) (fun _ => none) = mm_P (Mx X 90 ρ 91 2740 96 1) := by
    funext a
    show _ = if X + 90 ≤ a then (fun k => (lkp 96 (a - X) k).map (fun v => X + v)) else mm_P ρ a
    rw [hN]
    by_cases y : X + 90 ≤ a
    · rw [if_pos y]
      have z : (fun k => (lkp 96 (a - X) k).map (fun v => X + v)) = fun _ => none := by
        funext k
        rw [l0 _ _ (by omega)]
        rfl
      rw [z]
      by_cases e : a = X + 90
      · rw [e, u1_s]
      · rw [u1_n _ _ e, hP a y]
    · rw [if_neg y, u1_n _ _ (by omega)]
  have e4 : u1 (mm_K ρ) (mm_N ρ) (12, 0) = mm_K (Mx X 90 ρ 91 2740 96 1) := by
    funext a
    show _ = if X + 90 ≤ a ∧ a < X + 91 then kt (a - X) else mm_K ρ a
    rw [hN]
    by_cases e : a = X + 90
    · rw [e, u1_s, if_pos ⟨by omega, by omega⟩, Nat.add_sub_cancel_left]
      rfl
    · rw [u1_n _ _ e, if_neg (by omega)]
  show (u1 (mm_I ρ) (mm_N ρ) (fun _ => 0), u1 (mm_L ρ) (mm_N ρ) (fun _ => 0), u1 (mm_P ρ) (mm_N ρ) (fun _ => none), u1 (mm_K ρ) (mm_N ρ) (12, 0), mm_S ρ, mm_N ρ + 1, mm_Z ρ + 73) = _
  rw [e1, e2, e3, e4, hN, hZ]
  rfl
/-- the class stands -/
theorem b_class (hb : b < X) : ∃ ρ, f_X10_init X (mn_C (m_0 b L xs S X) 11 0) = some ρ ∧ (mm_S ρ = S ∧ mm_N ρ = X + 90 ∧ mm_Z ρ = 2667 ∧ (∀ j, j < 90 → mm_K ρ (X + j) = kt j) ∧ mm_K ρ b = (19, L) ∧ mm_I ρ b = xs) ∧ (∀ j k, mm_P ρ (X + j) k = if (j = 58 ∧ k = 7) ∨ (j = 66 ∧ k = 5) then some (X + 21) else (lkp 96 j k).map (fun v => X + v)) ∧ (∀ a, X ≤ a → mm_L ρ a = fun _ => 0) ∧ CTn (X + 21) D0 ρ ∧ TuP (X + 21) D0 ρ ∧ SpT X (X + 21) D0 ρ ∧ mm_I ρ X 15 = nI (cr D0 (rwT D0 0)) ∧ (mm_I ρ (X + 4) 8 = 0 ∧ mm_I ρ (X + 4) 9 = 0 ∧ mm_I ρ (X + 4) 10 = 0) ∧ (mm_I ρ (X + 66) 9 = 0 ∧ mm_I ρ (X + 66) 10 = 0 ∧ mm_I ρ (X + 66) 11 = 0) ∧ (mm_I ρ (X + 13) 1 = 0 ∧ mm_I ρ (X + 84) 1 = 0 ∧ mm_I ρ (X + 86) 1 = 0 ∧ mm_I ρ (X + 88) 1 = 0) ∧ (∀ j k, j = 1 ∨ j = 57 ∨ 90 ≤ j → mm_I ρ (X + j) k = lki 1 j k) := by
  have kA : ∀ q ∈ k_tab_q, q.1 < 90 ∧ kt q.1 = (q.2.1, q.2.2) := by decide +kernel
  have pB : ∀ q ∈ p_tab_q, lkp 96 q.1 q.2.1 = some q.2.2 := by decide +kernel
  have hs : Sh_q X (Mx X 0 (m_0 b L xs S X) 90 2667 96 1) := by
    refine ⟨fun q hq => ?_, fun q hq => ?_⟩
    · obtain ⟨h1, h2⟩ := kA q hq
      rw [x_KK ⟨by omega, h1⟩, h2]
    · rw [x_PP (by omega), pB q hq]
      rfl
  have hT := tws_c_q hs (c := X + 21) (Or.inl rfl)
  obtain ⟨ν1, a1, a2, a3⟩ := e_clear hT
  have aP := p_X7_clear a1
  have aL := l_X7_clear a1
  have aT := t_X7_clear a1
  have hT1 : TwS (X + 21) (mm_K ν1) (mm_P ν1) := by rw [tl_K aT, aP]; exact hT
  obtain ⟨ν2, b1, b2, b3⟩ := e_prepare hT1 a2 ok_D0
  have bP := p_X9_prepare b1
  have bL := l_X9_prepare b1
  have bT := t_X9_prepare b1
  have hs2 : Sh_q X ν2 := by
    show Shp_q X (mm_K ν2) (mm_P ν2)
    rw [tl_K bT, tl_K aT, bP, aP]
    exact hs
  have P0 : ∀ j k, mm_P ν2 (X + j) k = (lkp 96 j k).map (fun v => X + v) := fun j k => by rw [bP, aP, x_PP (by omega)]
  have h13 : mm_P ν2 X 13 = some (X + 21) := P0 0 13
  have ct2 : CTn (X + 21) D0 ν2 := ctn_x (fun q _ _ => b3 q (by omega)) a2
  obtain ⟨ρ, d1, d2, d3, d4, d5, d6, d7, d8, d9, d10⟩ := e_settC_q hs2 (Or.inl rfl) h13 ok_D0 ct2 b2 en_0
  have hTl : tl ρ = tl (Mx X 0 (m_0 b L xs S X) 90 2667 96 1) := d2.trans (bT.trans aT)
  have I0 : ∀ q, q ≠ X → q ≠ X + 4 → q ≠ X + 13 → q < X + 59 ∨ X + 66 < q → q ≠ X + 84 → q ≠ X + 86 → q ≠ X + 88 → q < X + 21 ∨ X + 39 ≤ q → mm_I ρ q = mm_I (Mx X 0 (m_0 b L xs S X) 90 2667 96 1) q := fun q h1 h2 h3 h4 h5 h6 h7 h8 => by
    rw [d10 q h1 h2 h3 h4 h5 h6 h7, b3 q (by omega), a3 q (by omega)]
  refine ⟨ρ, ?_, ⟨tl_S hTl, tl_N hTl, tl_Z hTl, fun j hj => by rw [tl_K hTl, x_KK ⟨by omega, hj⟩], ?_, ?_⟩, fun j k => ?_, fun a ha => ?_, ?_, ?_, d5, d6, d7, d8, d9, fun j k hj => ?_⟩
  · rw [b_m0 hb]
    refine (s_X10 X (m_0 b L xs S X)).trans ?_
    unfold f_X10_init_J210
    have g1 : gf_P 11 13 (X + 0) ν1 = some (X + 21) := e_gfP (by rw [tl_K aT, x_K (t := 11) (by decide +kernel)]) (by rw [aP]; exact x_PP (by omega))
    rw [x_G (X := X) (ρ := m_0 b L xs S X) (n0 := 0) (n := 90) (z := 2667) (w := 96) (i := 1) (t := 11) (k := 13) (j := 0) (v := 21) (by decide +kernel), ob, a1, ob, g1, ob, tc_p8 hT1, ob, ob, b1, ob]
    show (f_X10_settle X ν2).bind _ = _
    rw [d1, ob]
  · rw [tl_K hTl]
    show (if X + 0 ≤ b ∧ b < X + 90 then kt (b - X) else mm_K (m_0 b L xs S X) b) = _
    rw [if_neg (by omega)]
    exact if_pos rfl
  · rw [I0 b (by omega) (by omega) (by omega) (by omega) (by omega) (by omega) (by omega) (by omega)]
    show (if X + 0 ≤ b then (fun k => lki 1 (b - X) k) else mm_I (m_0 b L xs S X) b) = _
    rw [if_neg (by omega)]
    exact if_pos rfl
  · rw [d3, P0]
    by_cases y : (j = 58 ∧ k = 7) ∨ (j = 66 ∧ k = 5)
    · rw [if_pos y, if_pos (by omega)]
    · rw [if_neg y, if_neg (by omega)]
  · rw [d4, bL, aL]
    show (if X + 0 ≤ a then (fun _ => (0 : Int64)) else _) = _
    rw [if_pos (by omega)]
  · exact ctn_x (fun q _ _ => d10 q (by omega) (by omega) (by omega) (by omega) (by omega) (by omega) (by omega)) ct2
  · exact tuP_x (fun q _ _ => d10 q (by omega) (by omega) (by omega) (by omega) (by omega) (by omega) (by omega)) b2
  · rw [I0 _ (by omega) (by omega) (by omega) (by omega) (by omega) (by omega) (by omega) (by omega), x_II (by omega)]
end BEG
