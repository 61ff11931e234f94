/-! ===== rings on the tape ===== -/
def rgL (n : Nat) (B : Nat → Nat) : Nat → Nat → Nat → (Nat → Nat) → Option (Nat × (Nat → Nat))
  | 0, _, _, _ => none
  | k + 1, x, S, C => if tK n B (till isB n B x) = 0 then some (S, C) else if tK n B (till isB n B x) = 2 ∧ 2 ≤ dv B (till isB n B x) (tE n B (till isB n B x) - till isB n B x) ∧ S + dv B (till isB n B x) (tE n B (till isB n B x) - till isB n B x) ≤ 20 then rgL n B k (tE n B (till isB n B x)) (S + dv B (till isB n B x) (tE n B (till isB n B x) - till isB n B x)) (u1 C (dv B (till isB n B x) (tE n B (till isB n B x) - till isB n B x)) (C (dv B (till isB n B x) (tE n B (till isB n B x) - till isB n B x)) + 1)) else none
theorem tK_le (n : Nat) (B : Nat → Nat) (j : Nat) : tK n B j ≤ 4 := by
  unfold tK
  split
  · omega
  · split
    · split <;> omega
    · split
      · split <;> omega
      · split <;> omega
theorem tE_le {n : Nat} {B : Nat → Nat} {j : Nat} (h : j ≤ n) : tE n B j ≤ n := by
  unfold tE
  split
  · omega
  · split
    · exact (till_p h).2.1
    · split
      · exact (till_p h).2.1
      · omega
theorem dv_4 {n : Nat} {B : Nat → Nat} {j : Nat} (h : tK n B j = 2) : dv B j (tE n B j - j) < 10000 := by
  unfold tK at h
  by_cases e0 : n ≤ j
  · rw [if_pos e0] at h; cases h
  · rw [if_neg e0] at h
    by_cases e1 : isL (B j) = true
    · rw [if_pos e1] at h
      split at h <;> cases h
    · rw [if_neg e1] at h
      by_cases e2 : isD (B j) = true
      · rw [if_pos e2] at h
        have ee : tE n B j = till isD n B j := by unfold tE; rw [if_neg e0, if_neg e1, if_pos e2]
        obtain ⟨l1, l2, l3, l4⟩ := till_p (q := isD) (B := B) (show j ≤ n by omega)
        have q : till isD n B j - j ≤ 4 := by
          by_cases z : till isD n B j - j ≤ 4
          · exact z
          · rw [if_neg z] at h; cases h
        rw [ee]
        have h1 := dv_lt (B := B) (j := j) (till isD n B j - j) (fun i hi => l3 (j + i) (by omega) (by omega))
        have h2 : (10 : Nat) ^ (till isD n B j - j) ≤ 10 ^ 4 := Nat.pow_le_pow_right (by decide) q
        omega
      · rw [if_neg e2] at h
        split at h <;> cases h
section CALLS
variable {b L : Nat} {xs : Nat → Int32} {X i c : Nat} {s : Sv} {μ ν : Mm}
theorem IC_f3 (h : IC X i c s μ) (f : Fr3 X μ ν) : IC X i c s ν ∧ ChC X μ ν := by
  refine ⟨IC_scr f.1 f.2.1 (fun q g1 g2 g3 => f.2.2.1 q (fun e => g1 (by unfold scr; omega))) (by rw [f.2.2.1 X (by omega)]) (fun q g1 g2 g3 => f.2.2.2 q g1) h, fun q hq => f.2.2.1 q (by unfold inM at hq; omega), fun q hq => f.2.2.2 q (by unfold inM at hq; omega), fun q hq => ⟨f.2.2.1 q (by omega), by rw [tl_K f.2.1]⟩⟩
theorem IR_fS (h : IR X s μ) (f : FrS X μ ν) : IR X s ν ∧ ChM X μ ν := by
  refine ⟨IR_scr (frs_sh h.1 f) (fun k hk => f.2.2.2.2.1 k (by unfold fdM at hk; omega)) (f.2.2.2.2.2 67 (by decide)) (fun q g1 g2 g3 => f.2.2.1 q g3) (fun q g1 g2 g3 => f.2.2.2.1 q g3) h, fun q hq => f.2.2.1 q (fun e => hq (by unfold inM; omega)), fun q hq => f.2.2.2.1 q (fun e => hq (by unfold inM; omega)), f.1, f.2.1⟩
theorem c_rg : ∀ k x S C m ν, m + k = 11 → 2 * m ≤ S → S ≤ 20 → x ≤ s.2.2.1 → IC X i c s ν → ChC X μ ν → mm_I ν (X + 3) 1 = nI x → (∀ q, q < 21 → mm_I ν (X + 19) q = nI (C q)) → (∀ q, C q ≤ m) → ∃ r ν', whl (f_X10_ringsOnTape_L19 X) (nI S, nI m, ν) = some r ∧ IC X i c s ν' ∧ ChC X μ ν' ∧ ((∃ y, rgL s.2.2.1 s.2.2.2.1 k x S C = some y ∧ r = .inl (nI y.1, ν') ∧ (∀ q, q < 21 → mm_I ν' (X + 19) q = nI (y.2 q)) ∧ y.1 ≤ 20 ∧ ∀ q, y.2 q ≤ 20) ∨ (rgL s.2.2.1 s.2.2.2.1 k x S C = none ∧ (r = .inr (.inl ν') ∨ r = .inr (.inr ν')))) := by
  intro k
  induction k with
  | zero => intro x S C m ν h1 h2 h3; omega
  | succ k ih =>
    intro x S C m ν hm h2 h3 hx hI hCh hx1 hC hCm
    obtain ⟨ν1, a1, a2, a3, a4, a5, a6, a7⟩ := c_adv hI.1.1 hI.2.2.1 hx1 hx
    obtain ⟨b1, b2⟩ := IC_f3 hI a2
    have hS1 := b1.1.1
    have hk4 := tK_le s.2.2.1 s.2.2.2.1 (till isB s.2.2.1 s.2.2.2.1 x)
    have htE := tE_le (n := s.2.2.1) (B := s.2.2.2.1) (till_p (q := isB) (B := s.2.2.2.1) hx).2.1
    have hC1 : ∀ q, q < 21 → mm_I ν1 (X + 19) q = nI (C q) := fun q hq => by rw [a2.2.2.1 _ (by omega)]; exact hC q hq
    have hdv := fun h => dv_4 (n := s.2.2.1) (B := s.2.2.2.1) (j := till isB s.2.2.1 s.2.2.2.1 x) h
    have hbody : f_X10_ringsOnTape_L19 X (nI S, nI m, ν) = (if nI (tK s.2.2.1 s.2.2.2.1 (till isB s.2.2.1 s.2.2.2.1 x)) = 0 then some (.inr (.inl (nI S, ν1))) else if nI (tK s.2.2.1 s.2.2.2.1 (till isB s.2.2.1 s.2.2.2.1 x)) = 2 then (if mm_I ν1 (X + 3) 5 < (2 : Int32) then f_X10_ringsOnTape_J74 X (nI S) (nI m) ν1 else f_X10_ringsOnTape_J75 X (nI S) (nI m) (1 : Int32) ν1) else f_X10_ringsOnTape_J74 X (nI S) (nI m) ν1) := by
      simp only [f_X10_ringsOnTape_L19]
      rw [if_neg (by rw [show (10 : Int32) = nI 10 from rfl, nI_lt_i (by omega) (by omega)]; omega), rp_0_1 hI.1.1, ob, a1, ob, rp_0_1 hS1, ob, rf_3 hS1, ob, a4, ob, rf_3 hS1, ob, a4, ob, rf_3 hS1, ob]
    have hJ74 : f_X10_ringsOnTape_J74 X (nI S) (nI m) ν1 = some (.inr (.inr (.inl ν1))) := by
      unfold f_X10_ringsOnTape_J74 f_X10_ringsOnTape_J75
      rw [if_pos rfl]
    unfold rgL
    generalize till isB s.2.2.1 s.2.2.2.1 x = j at a3 a4 a5 a6 a7 hk4 htE hbody hdv ⊢
    by_cases e0 : tK s.2.2.1 s.2.2.2.1 j = 0
    · rw [if_pos e0]
      rw [e0, if_pos (show nI 0 = 0 from rfl)] at hbody
      exact ⟨_, ν1, whl_r hbody, b1, ChC_t hCh b2, Or.inl ⟨_, rfl, rfl, hC1, h3, fun q => by have := hCm q; show C q ≤ 20; omega⟩⟩
    · rw [if_neg e0]
      rw [if_neg (by rw [nI_z (by omega)]; exact e0)] at hbody
      by_cases e2 : tK s.2.2.1 s.2.2.2.1 j = 2
      · have hd := hdv e2
        have h5 := a7 e2
        rw [e2, if_pos (show nI 2 = 2 from rfl), h5] at hbody
        generalize dv s.2.2.2.1 j (tE s.2.2.1 s.2.2.2.1 j - j) = v at hd h5 hbody ⊢
        by_cases e3 : 2 ≤ v
        · rw [if_neg (by rw [show (2 : Int32) = nI 2 from rfl, nI_lt_i (by omega) (by omega)]; omega)] at hbody
          unfold f_X10_ringsOnTape_J75 at hbody
          rw [if_neg (by decide), rp_0_1 hS1, ob, rf_3 hS1, ob, h5, show (20 : Int32) = nI 20 from rfl, pk_sub h3] at hbody
          by_cases e4 : S + v ≤ 20
          · have hcv := hCm v
            rw [if_pos (by rw [nI_le_i (by omega) (by omega)]; omega), ob, rf_3 hS1, ob, h5, ob, rp_0_11 hS1, ob, ob, rf_3 hS1, ob, h5, ra_19 hS1 (by omega), ob, hC1 v (by omega), nI_1, wa_19 hS1 _ (by omega), ob, ob, nI_add, nI_1] at hbody
            rw [if_pos ⟨e2, e3, e4⟩, whl_l hbody]
            obtain ⟨g1, g2⟩ := IC_sc (a := X + 19) (k := v) (v := nI (C v + 1)) (by unfold scr; omega) b1
            exact ih (tE s.2.2.1 s.2.2.2.1 j) (S + v) (u1 C v (C v + 1)) (m + 1) _ (by omega) (by omega) e4 htE g1 (ChC_t (ChC_t hCh b2) g2) (by rw [rI, if_neg (by omega)]; exact a3) (fun q hq => by
              rw [rI]
              by_cases z : q = v
              · rw [if_pos ⟨rfl, z⟩, z, u1_s]
              · rw [if_neg (fun z' => z z'.2), u1_n _ _ z]; exact hC1 q hq) (fun q => by
              by_cases z : q = v
              · rw [z, u1_s]; omega
              · rw [u1_n _ _ z]; have := hCm q; omega)
          · rw [if_neg (by rw [nI_le_i (by omega) (by omega)]; omega)] at hbody
            rw [if_neg (fun z => e4 z.2.2)]
            exact ⟨_, ν1, whl_r hbody, b1, ChC_t hCh b2, Or.inr ⟨rfl, Or.inl rfl⟩⟩
        · rw [if_pos (by rw [show (2 : Int32) = nI 2 from rfl, nI_lt_i (by omega) (by omega)]; omega), hJ74] at hbody
          rw [if_neg (fun z => e3 z.2.1)]
          exact ⟨_, ν1, whl_r hbody, b1, ChC_t hCh b2, Or.inr ⟨rfl, Or.inl rfl⟩⟩
      · rw [if_neg (by rw [show (2 : Int32) = nI 2 from rfl, nI_eq_i (by omega) (by omega)]; exact e2), hJ74] at hbody
        rw [if_neg (fun z => e2 z.1)]
        exact ⟨_, ν1, whl_r hbody, b1, ChC_t hCh b2, Or.inr ⟨rfl, Or.inl rfl⟩⟩
/-- what the model's reader has before it -/
def Tkn (X n : Nat) (B : Nat → Nat) (x : Nat) (μ : Mm) : Prop := mm_I μ (X + 90) 3 = nI (kR (tK n B (till isB n B x))) ∧ mm_I μ (X + 90) 6 = nI (tE n B (till isB n B x)) ∧ (tK n B (till isB n B x) = 2 → mm_I μ (X + 90) 7 = nI (dv B (till isB n B x) (tE n B (till isB n B x) - till isB n B x)))
theorem kR_4 {k : Nat} (h : k ≤ 4) : (kR k = 4) = (k = 0) := by
  unfold kR
  split
  · rename_i e; rw [e]; simp
  · split
    · rename_i e; rw [e]; simp
    · apply propext; omega
theorem kR_2 {k : Nat} (h : k ≤ 4) : (kR k = 2) = (k = 2) := by
  unfold kR
  split
  · rename_i e; rw [e]; simp
  · split
    · rename_i e; rw [e]; simp
    · rfl
theorem kR_le {k : Nat} (h : k ≤ 4) : kR k ≤ 4 := by
  unfold kR
  split
  · omega
  · split <;> omega
theorem r_rg {n : Nat} {B : Nat → Nat} (hS : ∀ i j, i < 14 → j < 14 → mm_S μ i = mm_S μ j → i = j) : ∀ k x S C m ν, m + k = 11 → 2 * m ≤ S → S ≤ 20 → x ≤ n → IR X s ν → ChM X μ ν → RTp X n B ν → Tkn X n B x ν → (∀ q, q < 21 → mm_I ν (X + 128) q = nI (C q)) → (∀ q, C q ≤ m) → ∃ r ν', whl (f_X11_rings_L27 (X + 90)) (nI S, ν) = some r ∧ IR X s ν' ∧ ChM X μ ν' ∧ ((∃ y, rgL n B k x S C = some y ∧ r = .inr (nI y.1, ν') ∧ (∀ q, q < 21 → mm_I ν' (X + 128) q = nI (y.2 q)) ∧ y.1 ≤ 20 ∧ ∀ q, y.2 q ≤ 20) ∨ (rgL n B k x S C = none ∧ r = .inl ν')) := by
  intro k
  induction k with
  | zero => intro x S C m ν h1 h2 h3; omega
  | succ k ih =>
    intro x S C m ν hm h2 h3 hx hI hCh hT hK hC hCm
    have h1 := hI.1
    have n9 := hT.2.1
    have hk4 := tK_le n B (till isB n B x)
    have htE := tE_le (n := n) (B := B) (till_p (q := isB) (B := B) hx).2.1
    have hdv := fun h => dv_4 (n := n) (B := B) (j := till isB n B x) h
    obtain ⟨k3, k6, k7⟩ := hK
    unfold rgL
    generalize till isB n B x = j at k3 k6 k7 hk4 htE hdv ⊢
    have hkl := kR_le hk4
    have d4 : (nI (kR (tK n B j)) = (4 : Int32)) = (tK n B j = 0) := by rw [show (4 : Int32) = nI 4 from rfl, nI_eq_i (by omega) (by omega), kR_4 hk4]
    have d2 : (nI (kR (tK n B j)) = (2 : Int32)) = (tK n B j = 2) := by rw [show (2 : Int32) = nI 2 from rfl, nI_eq_i (by omega) (by omega), kR_2 hk4]
    by_cases e0 : tK n B j = 0
    · rw [if_pos e0]
      have hbody : f_X11_rings_L27 (X + 90) (nI S, ν) = some (.inr (.inr (nI S, ν))) := by
        simp only [f_X11_rings_L27, rf_90 h1, ob, k3, d4]
        rw [if_pos e0]
      exact ⟨_, ν, whl_r hbody, hI, hCh, Or.inl ⟨_, rfl, rfl, hC, h3, fun q => by have := hCm q; show C q ≤ 20; omega⟩⟩
    · rw [if_neg e0]
      by_cases e2 : tK n B j = 2
      · have hd := hdv e2
        have h7 := k7 e2
        generalize dv B j (tE n B j - j) = v at hd h7 ⊢
        have hin : ((2 : Int32) ≤ nI v ∧ nI v ≤ (20 : Int32)) = (2 ≤ v ∧ v ≤ 20) := by rw [show (2 : Int32) = nI 2 from rfl, show (20 : Int32) = nI 20 from rfl, nI_le_i (by omega) (by omega), nI_le_i (by omega) (by omega)]
        have hbody : f_X11_rings_L27 (X + 90) (nI S, ν) = if 2 ≤ v ∧ v ≤ 20 then if S + v ≤ 20 then (pa_I (X + 128) (nI v) (nI (C v + 1)) ν).bind fun μ83 => (gf_I 12 7 (X + 90) μ83).bind fun x86 => (some (nI S + x86)).bind fun v90 => (f_X11_scan (X + 90) μ83).bind fun x92 => some (.inl (v90, x92)) else some (.inr (.inl ν)) else some (.inr (.inl ν)) := by
          simp only [f_X11_rings_L27, rf_90 h1, ob, k3, d4, d2, h7, e_in, bz_if, hin, nI_add, rp_90_62 h1]
          rw [if_neg e0, if_pos e2]
          by_cases z : 2 ≤ v ∧ v ≤ 20
          · rw [if_pos z, if_pos z, ra_128 h1 (by omega), ob, hC v (by omega), nI_1]
            by_cases z2 : S + v ≤ 20
            · rw [if_pos (by rw [show (20 : Int32) = nI 20 from rfl, nI_le_i (by omega) (by omega)]; exact z2), if_pos z2]
            · rw [if_neg (by rw [show (20 : Int32) = nI 20 from rfl, nI_le_i (by omega) (by omega)]; exact z2), if_neg z2]
          · rw [if_neg z, if_neg z]
        by_cases z : 2 ≤ v ∧ S + v ≤ 20
        · have hcv := hCm v
          obtain ⟨g1, g2⟩ := IR_sc (a := X + 128) (k := v) (v := nI (C v + 1)) (by unfold scM; omega) hI
          have hT2 : RTp X n B (ms_I ν (X + 128) v (nI (C v + 1))) := ⟨by rw [rI, if_neg (by omega)]; exact hT.1, hT.2.1, hT.2.2.1, fun i hi => by rw [iI, if_neg (by omega)]; exact hT.2.2.2 i hi⟩
          have h77 : mm_I (ms_I ν (X + 128) v (nI (C v + 1))) (X + 90) 7 = nI v := by rw [rI, if_neg (by omega)]; exact h7
          have h66 : mm_I (ms_I ν (X + 128) v (nI (C v + 1))) (X + 90) 6 = nI (tE n B j) := by rw [rI, if_neg (by omega)]; exact k6
          have hSm : mm_S (ms_I ν (X + 128) v (nI (C v + 1))) = mm_S μ := congrArg (fun t => t.2.1) hCh.2.2.2
          obtain ⟨π, p1, p2, p3, p4, p5, p6, p7, p8⟩ := r_scan g1.1 hT2 (fun i j hi hj e => hS i j hi hj (by rw [hSm] at e; exact e)) h66 htE
          obtain ⟨o1, o2⟩ := IR_fS g1 p2
          rw [if_pos ⟨z.1, by omega⟩, if_pos z.2, wa_128 h1 _ (by omega), ob, rf_90 g1.1, ob, h77, ob, nI_add, p1, ob] at hbody
          rw [if_pos ⟨e2, z.1, z.2⟩, whl_l hbody]
          exact ih (tE n B j) (S + v) (u1 C v (C v + 1)) (m + 1) π (by omega) (by omega) z.2 htE o1 (ChM_t (ChM_t hCh g2) o2) (frs_tp hT2 p2) ⟨p3, p5, p8⟩ (fun q hq => by
            rw [p2.2.2.1 _ (by omega), rI]
            by_cases z : q = v
            · rw [if_pos ⟨rfl, z⟩, z, u1_s]
            · rw [if_neg (fun z' => z z'.2), u1_n _ _ z]; exact hC q hq) (fun q => by
            by_cases z : q = v
            · rw [z, u1_s]; omega
            · rw [u1_n _ _ z]; have := hCm q; omega)
        · rw [if_neg (fun y => z y.2)]
          have hb2 : f_X11_rings_L27 (X + 90) (nI S, ν) = some (.inr (.inl ν)) := by
            rw [hbody]
            by_cases z1 : 2 ≤ v ∧ v ≤ 20
            · rw [if_pos z1, if_neg (fun y => z ⟨z1.1, y⟩)]
            · rw [if_neg z1]
          exact ⟨_, ν, whl_r hb2, hI, hCh, Or.inr ⟨rfl, rfl⟩⟩
      · rw [if_neg (fun z => e2 z.1)]
        have hbody : f_X11_rings_L27 (X + 90) (nI S, ν) = some (.inr (.inl ν)) := by
          simp only [f_X11_rings_L27, rf_90 h1, ob, k3, d4, d2]
          rw [if_neg e0, if_neg e2]
        exact ⟨_, ν, whl_r hbody, hI, hCh, Or.inr ⟨rfl, rfl⟩⟩
/-- the model takes the tape: it is empty, and the first token is read -/
theorem r_tape (hS : ∀ i j, i < 14 → j < 14 → mm_S μ i = mm_S μ j → i = j) (h : IR X s μ) (n9 : s.2.2.1 ≤ 900) (hB : ∀ p, s.2.2.2.1 p < 256) : ∃ ν, f_X11_takeTape (X + 90) μ = some ν ∧ IR X (s.1, s.2.1, 0, s.2.2.2.1, s.2.2.2.2) ν ∧ ChM X μ ν ∧ RTp X s.2.2.1 s.2.2.2.1 ν ∧ Tkn X s.2.2.1 s.2.2.2.1 0 ν ∧ (tK s.2.2.1 s.2.2.2.1 (till isB s.2.2.1 s.2.2.2.1 0) = 1 → mm_I ν (X + 90) 4 = oI (kwd s.2.2.2.1 (till isB s.2.2.1 s.2.2.2.1 0) (tE s.2.2.1 s.2.2.2.1 (till isB s.2.2.1 s.2.2.2.1 0) - till isB s.2.2.1 s.2.2.2.1 0)) ∧ mm_L ν (X + 90) 10 = lN (wv s.2.2.2.1 (till isB s.2.2.1 s.2.2.2.1 0) (tE s.2.2.1 s.2.2.2.1 (till isB s.2.2.1 s.2.2.2.1 0) - till isB s.2.2.1 s.2.2.2.1 0))) ∧ (tK s.2.2.1 s.2.2.2.1 (till isB s.2.2.1 s.2.2.2.1 0) ≠ 1 → mm_I ν (X + 90) 4 = -1) ∧ mm_I ν (X + 90) 5 = nI (till isB s.2.2.1 s.2.2.2.1 0) := by
  have h1 := h.1
  obtain ⟨t1, t2⟩ := h.2.2.1
  have hf : ∀ k, mm_I (ms_I (ms_I (ms_I μ (X + 90) 2 (nI s.2.2.1)) (X + 90) 1 0) (X + 90) 6 0) (X + 90) k = if k = 6 then 0 else if k = 1 then 0 else if k = 2 then nI s.2.2.1 else mm_I μ (X + 90) k := by
    intro k
    rw [rI]
    by_cases e6 : k = 6
    · rw [if_pos ⟨rfl, e6⟩, if_pos e6]
    · rw [if_neg (fun q => e6 q.2), if_neg e6, rI]
      by_cases e1 : k = 1
      · rw [if_pos ⟨rfl, e1⟩, if_pos e1]
      · rw [if_neg (fun q => e1 q.2), if_neg e1, rI]
        by_cases e2 : k = 2
        · rw [if_pos ⟨rfl, e2⟩, if_pos e2]
        · rw [if_neg (fun q => e2 q.2), if_neg e2]
  have ho : ∀ q, q ≠ X + 90 → mm_I (ms_I (ms_I (ms_I μ (X + 90) 2 (nI s.2.2.1)) (X + 90) 1 0) (X + 90) 6 0) q = mm_I μ q := fun q hq => by rw [iI, if_neg hq, iI, if_neg hq, iI, if_neg hq]
  have hch : ChM X μ (ms_I (ms_I (ms_I μ (X + 90) 2 (nI s.2.2.1)) (X + 90) 1 0) (X + 90) 6 0) := ChM_t (ChM_t (ChM_I (by unfold inM; omega)) (ChM_I (by unfold inM; omega))) (ChM_I (by unfold inM; omega))
  unfold f_X11_takeTape
  rw [if_pos (by rw [mk_90 h1]), rf_90 h1, ob, t1, wf_90 h1, ob, wf_90 (shI' h1 _ _ _), ob, wf_90 (shI' (shI' h1 _ _ _) _ _ _), ob]
  have hL : mm_L (ms_I (ms_I (ms_I μ (X + 90) 2 (nI s.2.2.1)) (X + 90) 1 0) (X + 90) 6 0) = mm_L μ := rfl
  generalize ms_I (ms_I (ms_I μ (X + 90) 2 (nI s.2.2.1)) (X + 90) 1 0) (X + 90) 6 0 = ρ at hf ho hch hL ⊢
  have hSρ : Sh X ρ := sh_x hch.2.2.1 hch.2.2.2 h1
  have hI : IR X (s.1, s.2.1, 0, s.2.2.2.1, s.2.2.2.2) ρ := by
    obtain ⟨-, i1, i2, i3, i4, i5⟩ := h
    refine ⟨hSρ, rt_x (fun k hk => by rw [hf, if_neg (by omega), if_neg (by omega), if_neg (by omega)]) (fun q g1 g2 => ho q (by omega)) (by rw [hL]) i1, ⟨?_, fun i hi => absurd hi (Nat.not_lt_zero _)⟩, rf_x (by rw [hf, if_neg (by omega), if_neg (by omega), if_neg (by omega)]) (by rw [hf, if_neg (by omega), if_neg (by omega), if_neg (by omega)]) i3, ra_x (fun k hk => by rw [hf, if_neg (by omega), if_neg (by omega), if_neg (by omega)]) (fun q g1 g2 => ho q (by omega)) i4, rr_x (fun k hk => by rw [hf, if_neg (by omega), if_neg (by omega), if_neg (by omega)]) (by rw [hL]) (fun q g1 g2 => ho q (by omega)) (by rw [hL]) i5⟩
    rw [hf, if_neg (by omega), if_pos rfl]; rfl
  have hT : RTp X s.2.2.1 s.2.2.2.1 ρ := ⟨by rw [hf, if_neg (by omega), if_neg (by omega), if_pos rfl], n9, hB, fun i hi => by rw [ho _ (by omega)]; exact t2 i hi⟩
  have hSm : mm_S ρ = mm_S μ := congrArg (fun t => t.2.1) hch.2.2.2
  obtain ⟨π, p1, p2, p3, p4, p5, p6, p7, p8⟩ := r_scan (x := 0) hSρ hT (fun i j hi hj e => hS i j hi hj (by rw [hSm] at e; exact e)) (by rw [hf, if_pos rfl]; rfl) (Nat.zero_le _)
  obtain ⟨o1, o2⟩ := IR_fS hI p2
  exact ⟨π, by rw [p1, ob], o1, ChM_t hch o2, frs_tp hT p2, ⟨p3, p5, p8⟩, p6, p7, p4⟩
/-- the answer to a tape of rings -/
def rgA (n : Nat) (B : Nat → Nat) : Int64 := match rgL n B 11 0 0 (fun _ => 0) with
  | some y => lN (rgF y.2 (fct y.1) 19)
  | none => -1
theorem c_ringsT (h : IC X i c s μ) : ∃ ν, f_X10_ringsOnTape X μ = some (rgA s.2.2.1 s.2.2.2.1, ν) ∧ IC X i c s ν ∧ ChC X μ ν := by
  have h1 := h.1.1
  have hI0 : IC X i c s (ms_A μ (X + 19) (fun j => if j < 21 then 0 else mm_I μ (X + 19) j)) ∧ ChC X μ (ms_A μ (X + 19) (fun j => if j < 21 then 0 else mm_I μ (X + 19) j)) := by
    refine ⟨IC_scr (by rfl) (by rfl) (fun q g1 g2 g3 => ?_) ?_ (fun _ _ _ _ => by rfl) h, fun q hq => ?_, fun _ _ => by rfl, fun q hq => ⟨?_, rfl⟩⟩
    · rw [iA, if_neg (show ¬ q = X + 19 from fun e => g1 (by unfold scr; omega))]
    · rw [iA, if_neg (by omega)]
    · rw [iA, if_neg (by unfold inM at hq; omega)]
    · rw [iA, if_neg (by omega)]
  have hc0 : ∀ q, q < 21 → mm_I (ms_A μ (X + 19) (fun j => if j < 21 then 0 else mm_I μ (X + 19) j)) (X + 19) q = nI 0 := fun q hq => by rw [iA, if_pos rfl, if_pos hq]; rfl
  unfold f_X10_ringsOnTape f_X6_rewind
  rw [if_pos (by rw [mk_0 h1]), rp_0_11 h1, ob, e_fillI (mk_19 h1) (by decide), ob]
  generalize ms_A μ (X + 19) (fun j => if j < 21 then 0 else mm_I μ (X + 19) j) = μ0 at hI0 hc0 ⊢
  obtain ⟨j1, j2⟩ := hI0
  have hF : Fr3 X μ0 (ms_I μ0 (X + 3) 1 0) := Fr3_I
  obtain ⟨i1, i2⟩ := IC_f3 j1 hF
  obtain ⟨r, ν, a1, a2, a3, a4⟩ := c_rg (μ := μ) 11 0 0 (fun _ => 0) 0 (ms_I μ0 (X + 3) 1 0) rfl (by decide) (by decide) (Nat.zero_le _) i1 (ChC_t j2 i2) (by rw [rI, if_pos ⟨rfl, rfl⟩]; rfl) (fun q hq => by rw [rI, if_neg (by omega)]; exact hc0 q hq) (fun q => Nat.le_refl _)
  replace a1 : whl (f_X10_ringsOnTape_L19 X) ((0 : Int32), (0 : Int32), ms_I μ0 (X + 3) 1 0) = some r := a1
  rw [rp_0_1 j1.1.1, ob, if_pos (by rw [mk_3 j1.1.1]), wf_3 j1.1.1, ob, ob, a1, ob]
  refine ⟨ν, ?_, a2, a3⟩
  unfold rgA
  rcases a4 with ⟨y, y1, rfl, y3, y4, y5⟩ | ⟨y1, rfl | rfl⟩
  · rw [y1]
    show f_X10_ringsOnTape_J42 X (nI y.1) ν = _
    unfold f_X10_ringsOnTape_J42
    rw [c_ways a2.1.1 y4 y3 y5, ob]
  · rw [y1]; rfl
  · rw [y1]; rfl
theorem r_ringsT (hS : ∀ i j, i < 14 → j < 14 → mm_S μ i = mm_S μ j → i = j) (h : IR X s μ) (n9 : s.2.2.1 ≤ 900) (hB : ∀ p, s.2.2.2.1 p < 256) : ∃ ν, f_X11_rings (X + 90) μ = some (rgA s.2.2.1 s.2.2.2.1, ν) ∧ IR X (s.1, s.2.1, 0, s.2.2.2.1, s.2.2.2.2) ν ∧ ChM X μ ν := by
  obtain ⟨ν, a1, a2, a3, a4, a5, -⟩ := r_tape hS h n9 hB
  have key := whl_i (body := f_X11_rings_L6 (X + 90)) 21 (fun k (st : Int32 × Mm) => ∃ π, st = (nI k, π) ∧ IR X (s.1, s.2.1, 0, s.2.2.2.1, s.2.2.2.2) π ∧ ChM X μ π ∧ (∀ q, q ≠ X + 128 → mm_I π q = mm_I ν q) ∧ ∀ q, q < k → mm_I π (X + 128) q = nI 0) (Q := fun π => IR X (s.1, s.2.1, 0, s.2.2.2.1, s.2.2.2.2) π ∧ ChM X μ π ∧ (∀ q, q ≠ X + 128 → mm_I π q = mm_I ν q) ∧ ∀ q, q < 21 → mm_I π (X + 128) q = nI 0) (s0 := ((0 : Int32), ν)) ⟨ν, rfl, a2, a3, fun _ _ => rfl, fun q hq => by omega⟩ (by
    rintro k st hk ⟨π, rfl, e1, e2, e3, e4⟩
    refine ⟨(nI (k + 1), ms_I π (X + 128) k (nI 0)), ?_, _, rfl, (IR_sc (by unfold scM; omega) e1).1, ChM_t e2 (IR_sc (by unfold scM; omega) e1).2, fun q hq => by rw [iI, if_neg hq]; exact e3 q hq, fun q hq => ?_⟩
    · simp only [f_X11_rings_L6]
      rw [if_neg (by rw [show (20 : Int32) = nI 20 from rfl, nI_lt_i (by omega) (by omega)]; omega), rp_90_62 e1.1, ob, show (0 : Int32) = nI 0 from rfl, wa_128 e1.1 _ hk, ob, ob, nI_1]
    · rw [rI]
      by_cases e : q = k
      · rw [if_pos ⟨rfl, e⟩]
      · rw [if_neg (fun q' => e q'.2)]; exact e4 q (by omega)) (by
    rintro st ⟨π, rfl, e1, e2, e3, e4⟩
    refine ⟨π, ?_, e1, e2, e3, e4⟩
    simp only [f_X11_rings_L6]
    rw [if_pos (by decide)])
  obtain ⟨π, b1, b2, b3, b4, b5⟩ := key
  have hT : RTp X s.2.2.1 s.2.2.2.1 π := ⟨by rw [b4 _ (by omega)]; exact a4.1, a4.2.1, a4.2.2.1, fun i hi => by rw [b4 _ (by omega)]; exact a4.2.2.2 i hi⟩
  have hK : Tkn X s.2.2.1 s.2.2.2.1 0 π := by
    unfold Tkn at a5 ⊢
    rw [b4 _ (by omega)]; exact a5
  obtain ⟨r, ρ, c1, c2, c3, c4⟩ := r_rg (s := (s.1, s.2.1, 0, s.2.2.2.1, s.2.2.2.2)) hS 11 0 0 (fun _ => 0) 0 π rfl (by decide) (by decide) (Nat.zero_le _) b2 b3 hT hK b5 (fun q => Nat.le_refl _)
  replace c1 : whl (f_X11_rings_L27 (X + 90)) ((0 : Int32), π) = some r := c1
  refine ⟨ρ, ?_, c2, c3⟩
  unfold f_X11_rings f_X11_rings_J25 rgA
  rw [if_pos (by rw [mk_90 h.1]), a1, ob, b1, ob, c1, ob]
  rcases c4 with ⟨y, y1, rfl, y3, y4, y5⟩ | ⟨y1, rfl⟩
  · rw [y1]
    exact r_ways c2.1 y4 y3 y5
  · rw [y1]; rfl
theorem k_rings (hS : ∀ i j, i < 14 → j < 14 → mm_S μ i = mm_S μ j → i = j) (h0 : mm_K μ b = (19, L) ∧ mm_I μ b = xs ∧ b < X) (h : IC X i c s μ) (hR : IR X s μ) : ∃ r μ1 μ2, f_X10_rings X μ = some (r, μ1) ∧ f_X11_rings (X + 90) μ1 = some (r, μ2) ∧ Inv b L xs X (i + 1) μ2 ∧ (mm_K μ1 b = (19, L) ∧ mm_I μ1 b = xs) := by
  obtain ⟨n9, hB, -⟩ := h.2.2.1
  obtain ⟨ν, a1, a2, a3⟩ := c_ringsT h
  have hT := t_X10_ringsOnTape a1
  have h1 := a2.1.1
  have hx : f_X10_rings X μ = some (rgA s.2.2.1 s.2.2.2.1, ms_I ν (X + 1) 1 0) := by
    unfold f_X10_rings
    rw [if_pos (by rw [mk_0 h.1.1]), a1, ob, rp_0_0 h1, ob, wf_1 h1, ob]
  have hCI : IC X i c (s.1, s.2.1, 0, s.2.2.2.1, s.2.2.2.2) (ms_I ν (X + 1) 1 0) := by
    refine IC_tp (by rfl) (by rfl) (fun q _ g1 _ _ => by rw [iI, if_neg g1]) (by rw [iI, if_neg (by omega)]) (fun _ _ _ => by rfl) ?_ a2
    exact ⟨by omega, hB, by rw [rI, if_pos ⟨rfl, rfl⟩]; rfl, fun j hj => by omega⟩
  refine both h0 hR hx (IC_up hCI) (ChC_t a3 (ChC_I (by unfold inM; omega) (by omega))) (fun hν => r_ringsT (fun i j hi hj e => hS i j hi hj ?_) hν n9 hB)
  have : mm_S (ms_I ν (X + 1) 1 0) = mm_S μ := congrArg (fun t => t.2.1) hT
  rw [this] at e
  exact e
end CALLS
