/-! ===== the class's census: its answers, second part ===== -/
theorem cntb_min (b : Nat → Bool) (n : Nat) : ∀ m, sg (fun i => (decide (i < n) && b i).toNat) m = cntb b (min m n) := by
  intro m
  induction m with
  | zero => rw [Nat.zero_min]; rfl
  | succ m ih =>
    show sg _ m + (decide (m < n) && b m).toNat = _
    rw [ih]
    by_cases e : m < n
    · rw [decide_eq_true e, Bool.true_and, Nat.min_eq_left (by omega), Nat.min_eq_left (by omega)]
      rfl
    · rw [decide_eq_false e, Bool.false_and, Nat.min_eq_right (by omega), Nat.min_eq_right (by omega)]
      rfl
theorem pc_bm (b : Nat → Bool) {n : Nat} (h : n ≤ 8) : pc (bm (fun p => decide (p < n) && b p) 8) = cntb b n := by
  unfold pc
  have : sg (fun i => ((bm (fun p => decide (p < n) && b p) 8).testBit i).toNat) 8 = sg (fun i => (decide (i < n) && b i).toNat) 8 := sg_x (fun q hq => by rw [bm_t, decide_eq_true hq, Bool.true_and])
  rw [this, cntb_min, Nat.min_eq_right h]
theorem sg_leb {g : Nat → Nat} {b : Nat} : ∀ {n : Nat}, (∀ i, i < n → g i ≤ b) → sg g n ≤ n * b := by
  intro n
  induction n with
  | zero => intro _; simp [sg]
  | succ n ih =>
    intro h
    have h1 := ih (fun i hi => h i (by omega))
    have h2 := h n (by omega)
    show sg g n + g n ≤ (n + 1) * b
    rw [Nat.succ_mul]
    omega
/-! common divisors -/
theorem gcd_s (x y : Nat) : Nat.gcd y (x % y) = Nat.gcd x y := by
  rw [Nat.gcd_comm x y, Nat.gcd_rec y x, Nat.gcd_comm]
theorem mod_h {y r : Nat} (h0 : 0 < r) (h : r < y) : 2 * (y % r) < y := by
  have h1 := Nat.mod_lt y h0
  have h2 := Nat.div_add_mod y r
  have h3 : 1 ≤ y / r := (Nat.one_le_div_iff h0).mpr (by omega)
  have h4 : r * 1 ≤ r * (y / r) := Nat.mul_le_mul_left r h3
  omega
section GCD
variable {μ : Mm}
theorem c_gstep {x y i : Nat} (hx : x < 2 ^ 31) (hy : y < 2 ^ 31) (h0 : 0 < y) (hi : i < 64) : f_X10_greatestDivisor_L7 μ (nI x, nI y, nI i) = some (.inl (nI y, nI (x % y), nI (i + 1))) := by
  simp only [f_X10_greatestDivisor_L7]
  rw [if_neg (by rw [show (64 : Int32) = nI 64 from rfl, nI_le_i (by omega) (by omega)]; omega), if_neg (by rw [show (0 : Int32) = nI 0 from rfl, nI_le_i (by omega) (by omega)]; omega), if_neg (by rw [nI_z hy]; omega), pk_rem hx h0 hy, ob, ob, nI_1]
theorem c_gend {x i : Nat} : f_X10_greatestDivisor_L7 μ (nI x, nI 0, nI i) = some (.inr (nI x)) := by
  simp only [f_X10_greatestDivisor_L7]
  by_cases z : (64 : Int32) ≤ nI i
  · rw [if_pos z]
  · rw [if_neg z, if_pos (by decide)]
theorem c_gcdL : ∀ k i x y, x < 2 ^ 31 → y < 2 ^ 31 → y < 2 ^ k → i + 2 * k ≤ 64 → whl (f_X10_greatestDivisor_L7 μ) (nI x, nI y, nI i) = some (nI (Nat.gcd x y)) := by
  intro k
  induction k with
  | zero =>
    intro i x y hx hy hk hi
    have : y = 0 := by omega
    rw [this, Nat.gcd_zero_right]
    exact whl_r c_gend
  | succ k ih =>
    intro i x y hx hy hk hi
    by_cases e : y = 0
    · rw [e, Nat.gcd_zero_right]
      exact whl_r c_gend
    · have hr := Nat.mod_lt x (show 0 < y by omega)
      rw [whl_l (c_gstep hx hy (by omega) (by omega)), ← gcd_s x y]
      by_cases e2 : x % y = 0
      · rw [e2, Nat.gcd_zero_right]
        exact whl_r c_gend
      · have hh := mod_h (show 0 < x % y by omega) hr
        rw [whl_l (c_gstep hy (by omega) (by omega) (by omega)), ← gcd_s y (x % y)]
        refine ih (i + 1 + 1) _ _ (by omega) (by omega) ?_ (by omega)
        rw [Nat.pow_succ] at hk
        omega
theorem e_gd {u n : Nat} (hu : u < 2 ^ 31) (hn : n ≤ 14833) : f_X10_greatestDivisor (nI u) (nI n) μ = some (nI (Nat.gcd u n)) := by
  unfold f_X10_greatestDivisor
  have := c_gcdL (μ := μ) 14 0 u n hu (by omega) (by omega) (by decide)
  rw [show whl (f_X10_greatestDivisor_L7 μ) (nI u, nI n, (0 : Int32)) = _ from this, ob]
theorem m_gcdL : ∀ k x y, x < 2 ^ 31 → y < 2 ^ 31 → y < k → whl (f_X11_common_L4 μ) (nI x, nI y) = some (nI (Nat.gcd x y)) := by
  intro k
  induction k with
  | zero => intro x y _ _ h; omega
  | succ k ih =>
    intro x y hx hy hk
    by_cases e : y = 0
    · rw [e, Nat.gcd_zero_right]
      exact whl_r (by simp only [f_X11_common_L4]; rw [if_pos (show nI 0 = 0 from rfl)])
    · have hr := Nat.mod_lt x (show 0 < y by omega)
      have st : f_X11_common_L4 μ (nI x, nI y) = some (.inl (nI y, nI (x % y))) := by
        simp only [f_X11_common_L4]
        rw [if_neg (by rw [nI_z hy]; exact e), pk_rem hx (by omega) hy, ob]
        rw [if_neg (by rw [nI_z hy]; exact e)]
      rw [whl_l st, ← gcd_s x y]
      exact ih y (x % y) hy (by omega) (by omega)
theorem e_common {u n : Nat} (hu : u < 2 ^ 31) (hn : n < 2 ^ 31) : f_X11_common (nI u) (nI n) μ = some (nI (Nat.gcd u n)) := by
  unfold f_X11_common
  rw [m_gcdL (n + 1) u n hu hn (by omega), ob]
end GCD
section CEN
variable {X i c : Nat} {s : Sv} {μ ν ρ : Mm} {T : Tn} {A : Nat → Nat → Nat}
variable {Rw Ft nr sz fo : Nat} {Ml Ln : Nat → Nat}
theorem e_least2 {u : Nat} {l2 : Int32} (h : IC X i c s μ) (hu : u < 2 ^ 31) : f_X10_inLeastNumbers X (nI u) l2 μ = some (nI ((if l2 = 0 then u else (EN s.1).length) / Nat.gcd u (EN s.1).length)) := by
  have ok := h.2.1.1
  have hl := EN_len ok
  have hpos : 0 < (EN s.1).length := by have := h.2.1.2.1; omega
  have h1 := h.1.1
  have hc : c = X + 21 ∨ c = X + 39 := by have := h.1.2.1; omega
  have hT := tws_c h1 hc
  have g0 : 0 < Nat.gcd u (EN s.1).length := Nat.gcd_pos_of_pos_right u hpos
  have g1 := Nat.gcd_le_right u hpos
  unfold f_X10_inLeastNumbers f_X10_inLeastNumbers_J34
  rw [if_pos (by rw [mk_0 h1]), e_gfP (by rw [mk_0 h1]) h.1.2.2.1, ob, tc_p8 hT, ob, e_howMany hT h.2.1.2.2.2.1, ob, e_gd hu hl, ob, if_pos (by rw [show (0 : Int32) = nI 0 from rfl, nI_lt_i (by omega) (by omega)]; exact g0)]
  by_cases z : l2 = 0
  · rw [if_pos z, if_pos z, if_neg (by rw [nI_z (by omega)]; omega), pk_div hu g0 (by omega)]
  · rw [if_neg z, if_neg z, if_neg (by rw [nI_z (by omega)]; omega), pk_div (by omega) g0 (by omega)]
theorem IC_fin (h : IC X i c s μ) (f : FrZ X μ ν) (z : Cz X s.1 Rw Ft nr sz fo Ml Ln ν) (hk : ∀ k, 11 ≤ k → mm_I ν (X + 66) k = mm_I μ (X + 66) k) : IC X i c s ν ∧ ChC X μ ν := by
  obtain ⟨as, a1, a2⟩ := ic_ak h
  refine IC_z h f (ic_N h) (z_cc z (as := as) ⟨?_, ?_⟩)
  · rw [hk 11 (by decide)]; exact a1
  · rw [hk 12 (by decide), hk 13 (by decide), hk 14 (by decide)]; exact a2
/-- one fact is found, what fits stays -/
theorem z_one {f : Nat} (h : IC X i c s μ) (hf : f < s.1 0 1) (z : Cz X s.1 Rw Ft nr sz fo Ml Ln μ) : ∃ ν Rw' Ft' nr' fo' Ml' Ln', f_X1_findComings (X + 66) ((1 : Int32) <<< (nI f &&& 31)) μ = some ν ∧ IC X i c s ν ∧ ChC X μ ν ∧ Cz X s.1 Rw' Ft' nr' (EN s.1).length fo' Ml' Ln' ν ∧ fo'.testBit f = true ∧ (∀ F, FS X s.1 F Rw Ft nr fo Ml Ln μ → FS X s.1 F Rw' Ft' nr' fo' Ml' Ln' ν) := by
  have ok := h.2.1.1
  have n12 := ok.1.2.1
  have hpos : 0 < (EN s.1).length := by have := h.2.1.2.1; omega
  have hp : (2 : Nat) ^ f < 4096 := Nat.lt_of_lt_of_le (Nat.pow_lt_pow_right (by decide) (show f < 12 by omega)) (by decide)
  obtain ⟨ν, Rw', Ft', nr', fo', Ml', Ln', a1, a2, a3, a4⟩ := z_find (fm := 2 ^ f) (IC_w h) hp z
  obtain ⟨i1, i2⟩ := ZI_ic h a2
  refine ⟨ν, Rw', Ft', nr', fo', Ml', Ln', by rw [b_one (by omega)]; exact a1, i1, i2, a2.2.1, a3 f hf (Or.inl (Nat.testBit_two_pow_self)), fun F fs => ?_⟩
  have hsz : sz ≠ 0 := by
    intro e
    have e1 := z.2.2.2.1.1
    have e2 := fs.1.2.2.2.1.1
    rw [e, e2] at e1
    have hl := EN_len ok
    rw [nI_eq_i (by omega) (by omega)] at e1
    omega
  obtain ⟨e1, e2, e3, e4⟩ := a4 hsz
  refine ⟨a2.2.1, by rw [a2.2.2.1 8 (by decide) (by decide)]; exact fs.2.1, fun j hj => ?_⟩
  rw [e2, e4]
  exact fs.2.2 j hj
/-- who surely knows, who perhaps -/
def sKn (T : Tn) (F : Nat → Bool) (f day : Nat) : Nat := if cntb F (EN T).length = 0 then 0 else bm (fun p => decide (p < T 0 0) && !anyb (fun k => F k && !c_beh T (dr T k) w7 u0 f (day + 1) p) (EN T).length) 8
def pKn (T : Tn) (F : Nat → Bool) (f day : Nat) : Nat := bm (fun p => anyb (fun k => F k && (decide (p < T 0 0) && c_beh T (dr T k) w7 u0 f (day + 1) p)) (EN T).length) 8
theorem c_perh {F : Nat → Bool} {f day : Nat} (h : IC X i c s μ) (fs : FS X s.1 F Rw Ft nr fo Ml Ln μ) (hf : f < s.1 0 1) (hd : day < 28) : ∃ ν, f_X1_perhapsKnowing (X + 66) (nI f) (nI day) μ = some (nI (pKn s.1 F f day), ν) ∧ IC X i c s ν ∧ ChC X μ ν := by
  have ok := h.2.1.1
  have hl := EN_len ok
  obtain ⟨ν, Rw', Ft', nr', fo', Ml', Ln', a1, a2, a3, a4, a5, a6⟩ := z_one h hf fs.1
  have z := a6 F fs
  have g := a2.1.1
  have hpos : 0 < (EN s.1).length := by have := h.2.1.2.1; omega
  have fl := flt_n F (EN s.1).length
  have cl := cntb_le F (EN s.1).length
  have nr5 := (z.1.2.2.2.2.1 (by omega)).1
  have nr14 := z.1.1.2.2.2.2.1
  refine ⟨ν, ?_, a2, a3⟩
  unfold f_X1_perhapsKnowing
  rw [if_pos (by rw [mk_66 h.1.1]), a1, ob]
  have key : whl (f_X1_perhapsKnowing_L12 (X + 66) (nI f) (nI day) ν) ((0 : Int32), (0 : Int32)) = some (nI (bm (fun p => (flt F (EN s.1).length).any (fun k => decide (p < s.1 0 0) && c_beh s.1 (dr s.1 k) w7 u0 f (day + 1) p)) 8)) := by
    refine whl_c (flt F (EN s.1).length).length (fun j => (nI (bm (fun p => ((flt F (EN s.1).length).take j).any (fun k => decide (p < s.1 0 0) && c_beh s.1 (dr s.1 k) w7 u0 f (day + 1) p)) 8), nI j)) ?_ (fun j hj => ?_) ?_
    · have : bm (fun p => ((flt F (EN s.1).length).take 0).any (fun k => decide (p < s.1 0 0) && c_beh s.1 (dr s.1 k) w7 u0 f (day + 1) p)) 8 = 0 := bm_0.symm
      rw [this]; rfl
    · obtain ⟨m1, m2⟩ := flt_m (List.getElem_mem hj)
      have tk1 : (flt F (EN s.1).length).take (j + 1) = (flt F (EN s.1).length).take j ++ [(flt F (EN s.1).length)[j]] := by rw [List.take_succ, List.getElem?_eq_getElem hj]; rfl
      simp only [f_X1_perhapsKnowing_L12]
      rw [rf_66 g, ob, z.2.1, if_neg (by rw [nI_le_i (by omega) (by omega)]; omega), e_gfP (by rw [mk_66 g]) z.1.1.2.1, ob, e_len z.1.1.2.2.2.1 ⟨by decide, by decide⟩, ob, if_neg (by rw [nI_le_i (by omega) (by omega)]; omega), ob, e_gaI z.1.1.2.2.2.1 (by omega) (by omega), ob, z.2.2 j hj, e_know a2 z.1 a5 m1 hd, ob, ob, nI_or, bm_or, ob, nI_1, tk1]
      congr 4
      apply bm_x
      intro p hp
      rw [List.any_append]
      show _ = (_ || (_ || false))
      rw [Bool.or_false]
    · simp only [f_X1_perhapsKnowing_L12]
      rw [List.take_length, rf_66 g, ob, z.2.1, if_pos (nI_le (Nat.le_refl _) (by omega))]
  rw [key, ob]
  congr 3
  unfold pKn
  apply bm_x
  intro p hp
  exact flt_any F (fun k => decide (p < s.1 0 0) && c_beh s.1 (dr s.1 k) w7 u0 f (day + 1) p) _
theorem c_surely {F : Nat → Bool} {f day : Nat} (h : IC X i c s μ) (fs : FS X s.1 F Rw Ft nr fo Ml Ln μ) (hf : f < s.1 0 1) (hd : day < 28) : ∃ ν, f_X1_surelyKnowing (X + 66) (nI f) (nI day) μ = some (nI (sKn s.1 F f day), ν) ∧ IC X i c s ν ∧ ChC X μ ν := by
  have ok := h.2.1.1
  have n8 := ok.1.1
  have hl := EN_len ok
  obtain ⟨ν, Rw', Ft', nr', fo', Ml', Ln', a1, a2, a3, a4, a5, a6⟩ := z_one h hf fs.1
  have z := a6 F fs
  have g := a2.1.1
  have hc : c = X + 21 ∨ c = X + 39 := by have := h.1.2.1; omega
  have hT := tws_c g hc
  have hpos : 0 < (EN s.1).length := by have := h.2.1.2.1; omega
  have fl := flt_n F (EN s.1).length
  have cl := cntb_le F (EN s.1).length
  have nr5 := (z.1.2.2.2.2.1 (by omega)).1
  have nr14 := z.1.1.2.2.2.2.1
  refine ⟨ν, ?_, a2, a3⟩
  unfold f_X1_surelyKnowing f_X1_surelyKnowing_J29 sKn
  rw [if_pos (by rw [mk_66 h.1.1]), a1, ob, rf_66 g, ob, z.2.1]
  have key : ∀ b : Nat → Bool, whl (f_X1_surelyKnowing_L33 (X + 66) (nI f) (nI day) ν) (nI (bm b 8), (0 : Int32)) = some (nI (bm (fun p => b p && !(flt F (EN s.1).length).any (fun k => !(decide (p < s.1 0 0) && c_beh s.1 (dr s.1 k) w7 u0 f (day + 1) p))) 8)) := by
    intro b
    refine whl_c (flt F (EN s.1).length).length (fun j => (nI (bm (fun p => b p && !((flt F (EN s.1).length).take j).any (fun k => !(decide (p < s.1 0 0) && c_beh s.1 (dr s.1 k) w7 u0 f (day + 1) p))) 8), nI j)) ?_ (fun j hj => ?_) ?_
    · have : bm (fun p => b p && !((flt F (EN s.1).length).take 0).any (fun k => !(decide (p < s.1 0 0) && c_beh s.1 (dr s.1 k) w7 u0 f (day + 1) p))) 8 = bm b 8 := bm_x (fun p _ => by
        show (b p && !false) = b p
        simp)
      rw [this]; rfl
    · obtain ⟨m1, m2⟩ := flt_m (List.getElem_mem hj)
      have tk1 : (flt F (EN s.1).length).take (j + 1) = (flt F (EN s.1).length).take j ++ [(flt F (EN s.1).length)[j]] := by rw [List.take_succ, List.getElem?_eq_getElem hj]; rfl
      simp only [f_X1_surelyKnowing_L33]
      rw [rf_66 g, ob, z.2.1, if_neg (by rw [nI_le_i (by omega) (by omega)]; omega), e_gfP (by rw [mk_66 g]) z.1.1.2.1, ob, e_len z.1.1.2.2.2.1 ⟨by decide, by decide⟩, ob, if_neg (by rw [nI_le_i (by omega) (by omega)]; omega), ob, e_gaI z.1.1.2.2.2.1 (by omega) (by omega), ob, z.2.2 j hj, e_know a2 z.1 a5 m1 hd, ob, ob, nI_and, bm_and, ob, nI_1, tk1]
      congr 4
      apply bm_x
      intro p hp
      rw [List.any_append]
      show _ = (b p && !(_ || (_ || false)))
      rw [Bool.or_false, Bool.not_or, Bool.not_not, Bool.and_assoc]
    · simp only [f_X1_surelyKnowing_L33]
      rw [List.take_length, rf_66 g, ob, z.2.1, if_pos (nI_le (Nat.le_refl _) (by omega))]
  by_cases e : cntb F (EN s.1).length = 0
  · rw [if_pos (by rw [fl, e]; decide), if_pos e]
    have := key (fun _ => false)
    rw [← bm_0] at this
    rw [show whl (f_X1_surelyKnowing_L33 (X + 66) (nI f) (nI day) ν) ((0 : Int32), (0 : Int32)) = _ from this, ob]
    congr 3
    rw [bm_z]
    intro p _
    rfl
  · have e1 : ((1 : Int32) <<< (nI (s.1 0 0) &&& 31)) - (1 : Int32) = nI (bm (fun p => decide (p < s.1 0 0)) 8) := by
      have hp : (2 : Nat) ^ s.1 0 0 ≤ 2 ^ 8 := Nat.pow_le_pow_right (by decide) n8
      have hp0 := Nat.two_pow_pos (s.1 0 0)
      rw [b_one (by omega), show (1 : Int32) = nI 1 from rfl, pk_sub (by omega)]
      congr 1
      exact bm_of (by omega) (fun i _ => Nat.testBit_two_pow_sub_one _ _)
    rw [if_neg (by rw [fl, show (0 : Int32) = nI 0 from rfl, nI_le_i (by omega) (by omega)]; omega), if_neg e, e_gfP (by rw [mk_66 g]) a2.1.2.2.2, ob, ct_n hT a2.2.1.2.2.1, ob, e1, key, ob]
    congr 3
    apply bm_x
    intro p hp
    rw [flt_any F (fun k => !(decide (p < s.1 0 0) && c_beh s.1 (dr s.1 k) w7 u0 f (day + 1) p))]
    by_cases w : p < s.1 0 0
    · rw [decide_eq_true w]; simp
    · rw [decide_eq_false w]; simp
end CEN
