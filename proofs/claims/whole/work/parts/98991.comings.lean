/-! ===== the class's comings ===== -/
section COM
variable {X c f : Nat} {T : Tn} {d : Nat → Nat} {μ : Mm}
theorem e_withM {g : Nat → Nat} {b : Nat → Bool} {m : Nat} (hg : ∀ i, g i < 256) (hm : m < 256) : f_X4_withMoment (lN (mby g 8)) (nI (bm b 8)) (nI m) μ = some (lN (mby (fun p => if b p then m else g p) 8)) := by
  unfold f_X4_withMoment
  have hG : ∀ k i, (fun q => if decide (q < k) && b q then m else g q) i < 256 := fun k i => by
    dsimp only
    split
    · exact hm
    · exact hg i
  have key := whl_e (body := f_X4_withMoment_L6 (nI (bm b 8)) (nI m) μ) 8 (fun k (st : Int64 × Int32) => st = (lN (mby (fun q => if decide (q < k) && b q then m else g q) 8), nI k)) (Q := fun r => r = lN (mby (fun p => if b p then m else g p) 8)) (s0 := (lN (mby g 8), (0 : Int32))) ?_ ?_ ?_
  · obtain ⟨r, k1, k2⟩ := key
    rw [k1, ob, k2]
  · show _ = (lN (mby _ 8), nI 0)
    rw [mby_x (g := fun q => if decide (q < 0) && b q then m else g q) (g' := g) (fun i _ => by rw [decide_eq_false (by omega)]; rfl)]
    rfl
  · rintro k st hk rfl
    have sh : nI (bm b 8) >>> (nI k &&& 31) = nI (bm b 8 / 2 ^ k) := b_shr (by omega) (bm_31 b (by decide))
    have lt : bm b 8 / 2 ^ k < 2 ^ 31 := Nat.lt_of_le_of_lt (Nat.div_le_self _ _) (bm_31 b (by decide))
    simp only [f_X4_withMoment_L6, f_X4_withMoment_J57]
    rw [if_neg (by rw [show (8 : Int32) = nI 8 from rfl, nI_le_i (by omega) (by omega)]; omega)]
    by_cases z : bm b 8 / 2 ^ k = 0
    · right
      refine ⟨_, by rw [if_pos (by rw [sh, z]; rfl)], ?_⟩
      rw [bm_sh0] at z
      congr 1
      refine mby_x (fun i hi => ?_)
      by_cases y : i < k
      · rw [decide_eq_true y]; rfl
      · rw [decide_eq_false y, z i (by omega) hi]; rfl
    · left
      rw [if_neg (by rw [sh, nI_z lt]; exact z), bmb (by omega) (by decide)]
      cases eb : b k with
      | false =>
        refine ⟨_, by rw [if_pos (show nI false.toNat = 0 from rfl), ob, nI_1], ?_⟩
        congr 2
        refine mby_x (fun i hi => ?_)
        by_cases y : i = k
        · rw [y, eb, Bool.and_false, Bool.and_false]
        · by_cases y2 : i < k
          · rw [decide_eq_true y2, decide_eq_true (show i < k + 1 by omega)]
          · rw [decide_eq_false y2, decide_eq_false (show ¬ i < k + 1 by omega)]
      | true =>
        refine ⟨_, by rw [if_neg (show ¬ nI true.toNat = 0 by decide), ob, ob, ob, nI_1], ?_⟩
        congr 2
        rw [show (8 : Int32) * nI k = nI (8 * k) from pk_mul 8 k, show (255 : Int64) = lN 255 from rfl, l_shl (by omega) (Nat.lt_of_le_of_lt (Nat.mul_le_mul_left 255 (Nat.pow_le_pow_right (by decide) (show 8 * k ≤ 56 by omega))) (by decide)), show (-1 : Int64) = lN (2 ^ 64 - 1) from rfl, lN_xor, lN_and, nI_i64 (by omega), l_shl (by omega) (Nat.lt_of_le_of_lt (Nat.mul_le_mul (show m ≤ 255 by omega) (Nat.pow_le_pow_right (by decide) (show 8 * k ≤ 56 by omega))) (by decide)), lN_or, mby_s (hG k) (by omega) hm]
        congr 1
        refine mby_x (fun i hi => ?_)
        by_cases y : i = k
        · rw [y, u1_s, eb, decide_eq_true (show k < k + 1 by omega)]; rfl
        · rw [u1_n _ _ y]
          by_cases y2 : i < k
          · rw [decide_eq_true y2, decide_eq_true (show i < k + 1 by omega)]
          · rw [decide_eq_false y2, decide_eq_false (show ¬ i < k + 1 by omega)]
  · rintro st rfl
    refine ⟨_, by simp only [f_X4_withMoment_L6]; rw [if_pos (show (8 : Int32) ≤ nI 8 from nI_le (Nat.le_refl 8) (by decide))], ?_⟩
    exact congrArg lN (mby_x (fun i hi => by rw [decide_eq_true hi]; rfl))
theorem e_still {w us κ : Nat → Bool} (h : Sp X c T d μ) (ok : OkT T) (od : OkD (T 0 0) d) (hF : SpF X T f w us μ) : ∃ r : Bool, f_X4_isStill (X + 58) (nI (bm κ 8)) μ = some (nI r.toNat) ∧ (r = true → stl T d w f κ) := by
  have h1 := h.1.1
  have n8 := ok.1.1
  have n2 := ok.1.2.2.1
  have hc := h.1.2.1
  have hT := tws_c h1 (show c = X + 21 ∨ c = X + 39 by omega)
  obtain ⟨F1, F2, F3, F4, F5, F6⟩ := hF
  have talks : ∃ r : Bool, f_X4_isStill_J73 (X + 58) (nI (bm κ 8)) μ = some (nI r.toNat) ∧ (r = true → w 1 = true → (T 0 4).testBit f = false → ∀ k, k < T 0 2 → κ (T 4 k) = κ (T 5 k)) := by
    unfold f_X4_isStill_J73
    have key := whl_e (body := f_X4_isStill_L75 (X + 58) (nI (bm κ 8)) μ) (T 0 2) (fun k (st : Int32) => st = nI k ∧ ∀ q, q < k → κ (T 4 q) = κ (T 5 q)) (Q := fun r => r = .inl () ∨ (r = .inr () ∧ (w 1 = true → (T 0 4).testBit f = false → ∀ k, k < T 0 2 → κ (T 4 k) = κ (T 5 k)))) (s0 := (0 : Int32)) ⟨rfl, fun q hq => by omega⟩ ?_ ?_
    · obtain ⟨r, k1, k2 | ⟨k2, k3⟩⟩ := key
      · refine ⟨false, by rw [k1, ob, k2]; rfl, fun z => by cases z⟩
      · refine ⟨true, by rw [k1, ob, k2]; rfl, fun _ => k3⟩
    · rintro k st hk ⟨rfl, hq⟩
      obtain ⟨t1, t2, t3, t4, t5⟩ := ok.2.2.2.2.2.1 k hk
      simp only [f_X4_isStill_L75, f_X4_isStill_J133]
      rw [rf_58 h1, ob, F5]
      by_cases z : (w 1 && !(T 0 4).testBit f) = true
      · rw [z, if_neg (by decide), e_gfP (by rw [mk_58 h1]) h.2.2.1.1, ob, tc_p4 hT, ob, ct_s6 hT h.2.1, ob, if_neg (by rw [nI_le_i (by omega) (by omega)]; omega), rp_58_6 h1, ob, ln_65 h1, ob, if_neg (by rw [nI_le_i (by omega) (by omega)]; omega), ob, ra_65 h1 (by omega), ob, h.2.2.1.2.2.2 k hk, ob, nI_and, bm_and]
        by_cases e1 : nI (bm (fun i => κ i && (i == T 4 k || i == T 5 k)) 8) = 0
        · left
          refine ⟨_, by rw [if_pos e1, ob, nI_1], rfl, fun q hq' => ?_⟩
          rw [nI_z (bm_31 _ (by decide)), bm_z] at e1
          by_cases y : q = k
          · have a := e1 (T 4 k) (by omega)
            have b := e1 (T 5 k) (by omega)
            simp at a b
            rw [y, a, b]
          · exact hq q (by omega)
        · rw [if_neg e1, ob, ra_65 h1 (by omega), ob, h.2.2.1.2.2.2 k hk]
          by_cases e2 : nI (bm (fun i => κ i && (i == T 4 k || i == T 5 k)) 8) = nI (bm (fun p => p == T 4 k || p == T 5 k) 8)
          · left
            refine ⟨_, by rw [if_pos e2, ob, nI_1], rfl, fun q hq' => ?_⟩
            rw [nI_eq_i (bm_31 _ (by decide)) (bm_31 _ (by decide))] at e2
            have e3 := bm_i e2
            by_cases y : q = k
            · have a := e3 (T 4 k) (by omega)
              have b := e3 (T 5 k) (by omega)
              simp at a b
              rw [y, a, b]
            · exact hq q (by omega)
          · right
            exact ⟨_, by rw [if_neg e2], Or.inl rfl⟩
      · right
        have z' : (w 1 && !(T 0 4).testBit f) = false := by simpa using z
        refine ⟨_, by rw [z', if_pos (show nI false.toNat = 0 from rfl)], Or.inr ⟨rfl, fun a b => ?_⟩⟩
        rw [a, b] at z'
        cases z'
    · rintro st ⟨rfl, hq⟩
      refine ⟨.inr (), ?_, Or.inr ⟨rfl, fun _ _ => hq⟩⟩
      simp only [f_X4_isStill_L75]
      rw [rf_58 h1, ob, F5]
      by_cases z : nI (w 1 && !(T 0 4).testBit f).toNat = 0
      · rw [if_pos z]
      · rw [if_neg z, e_gfP (by rw [mk_58 h1]) h.2.2.1.1, ob, tc_p4 hT, ob, ct_s6 hT h.2.1, ob, if_pos (nI_le (Nat.le_refl _) (by omega))]
  obtain ⟨rt, rt1, rt2⟩ := talks
  have dreams : ∀ l2 : Int32, ∃ r : Bool, f_X4_isStill_J19 (X + 58) (nI (bm κ 8)) l2 μ = some (nI r.toNat) ∧ (r = true → (l2 ≠ 0 → ∀ q, q < 8 → κ q = true → ∀ p, p < 8 → d p = q → κ p = true) ∧ (w 1 = true → (T 0 4).testBit f = false → ∀ k, k < T 0 2 → κ (T 4 k) = κ (T 5 k))) := by
    intro l2
    unfold f_X4_isStill_J19
    have key := whl_e (body := f_X4_isStill_L22 (X + 58) (nI (bm κ 8)) l2 μ) 8 (fun k (st : Int32) => st = nI k ∧ ∀ q, q < k → κ q = true → ∀ p, p < 8 → d p = q → κ p = true) (Q := fun r => r = .inl () ∨ (r = .inr () ∧ (l2 ≠ 0 → ∀ q, q < 8 → κ q = true → ∀ p, p < 8 → d p = q → κ p = true))) (s0 := (0 : Int32)) ⟨rfl, fun q hq => by omega⟩ ?_ ?_
    · obtain ⟨r, k1, k2 | ⟨k2, k3⟩⟩ := key
      · refine ⟨false, by rw [k1, ob, k2]; rfl, fun z => by cases z⟩
      · refine ⟨rt, by rw [k1, ob, k2]; exact rt1, fun z => ⟨k3, rt2 z⟩⟩
    · rintro k st hk ⟨rfl, hq⟩
      unfold f_X4_isStill_L22 f_X4_isStill_J45 f_X4_isStill_J67
      by_cases z : l2 = 0
      · right
        exact ⟨_, by rw [if_pos z], Or.inr ⟨rfl, fun y => absurd z y⟩⟩
      · rw [if_neg z, if_neg (by rw [show (8 : Int32) = nI 8 from rfl, nI_le_i (by omega) (by omega)]; omega), bmb (by omega) (by decide)]
        cases ek : κ k with
        | false =>
          left
          refine ⟨_, by rw [if_pos (show nI false.toNat = 0 from rfl), if_pos rfl, ob, nI_1], rfl, fun q hq' hκ => ?_⟩
          by_cases y : q = k
          · rw [y, ek] at hκ; cases hκ
          · exact hq q (by omega) hκ
        | true =>
          rw [if_neg (show ¬ nI true.toNat = 0 by decide), if_neg (by decide), rp_58_4 h1, ob, ra_63 h1 hk, ob, h.2.2.2.2 k hk, b_andn _ _ (by decide)]
          by_cases e1 : nI (bm (fun i => (d i == k) && !κ i) 8) = 0
          · left
            refine ⟨_, by rw [if_pos e1, ob, nI_1], rfl, fun q hq' hκ p hp hdp => ?_⟩
            rw [nI_z (bm_31 _ (by decide)), bm_z] at e1
            by_cases y : q = k
            · have := e1 p hp
              rw [y] at hdp
              simp [hdp] at this
              exact this
            · exact hq q (by omega) hκ p hp hdp
          · right
            exact ⟨_, by rw [if_neg e1], Or.inl rfl⟩
    · rintro st ⟨rfl, hq⟩
      refine ⟨.inr (), ?_, Or.inr ⟨rfl, fun _ => hq⟩⟩
      simp only [f_X4_isStill_L22]
      by_cases z : l2 = 0
      · rw [if_pos z]
      · rw [if_neg z, if_pos (show (8 : Int32) ≤ nI 8 from nI_le (Nat.le_refl 8) (by decide))]
  have fin : ∀ l2 : Int32, ((w 0 = true ∨ w 2 = true) → (T 0 8).testBit f = false → l2 ≠ 0) → ∃ r : Bool, f_X4_isStill_J19 (X + 58) (nI (bm κ 8)) l2 μ = some (nI r.toNat) ∧ (r = true → stl T d w f κ) := by
    intro l2 hl
    obtain ⟨r, r1, r2⟩ := dreams l2
    refine ⟨r, r1, fun z => ⟨fun a b p hp h15 hκ => ?_, (r2 z).2⟩⟩
    have hd8 : d p < 8 := by rcases od.1 p with y | y; omega; exact absurd y h15
    exact (r2 z).1 (hl a b) (d p) hd8 hκ p hp rfl
  unfold f_X4_isStill f_X4_isStill_J14
  rw [if_pos (by rw [mk_58 h1]), rf_58 h1, ob, F4, rf_58 h1, ob, F6]
  by_cases z0 : (w 0 && !(T 0 8).testBit f) = false
  · rw [if_pos (by rw [nI_b0]; exact z0)]
    by_cases z2 : (w 2 && !(T 0 8).testBit f) = false
    · rw [if_pos (by rw [nI_b0]; exact z2)]
      refine fin 0 (fun a b => ?_)
      rw [b] at z0 z2
      simp at z0 z2
      rcases a with a | a
      · rw [z0] at a; cases a
      · rw [z2] at a; cases a
    · rw [if_neg (by rw [nI_b0]; exact z2)]
      exact fin 1 (fun _ _ => by decide)
  · rw [if_neg (by rw [nI_b0]; exact z0)]
    exact fin 1 (fun _ _ => by decide)
/-- the moments ahead of m -/
def gmo (T : Tn) (d : Nat → Nat) (f m p : Nat) : Nat := if momp T d f p < m then momp T d f p else 255
theorem gmo_256 (T : Tn) (d : Nat → Nat) (f m p : Nat) : gmo T d f m p < 256 := by
  unfold gmo
  have := momp_256 T d f p
  split <;> omega
theorem gmo_a {T : Tn} {d : Nat → Nat} {f day p : Nat} (hd : day < 28) : gmo T d f (2 * day + 1) p = if (c_ahd T d w7 u0 f day p && !c_beh T d w7 u0 f day p) then 2 * day else gmo T d f (2 * day) p := by
  have h1 := momp_a (T := T) (d := d) (f := f) (p := p) hd
  have h2 : momp T d f p < 2 * day ↔ c_beh T d w7 u0 f day p = true := by
    cases day with
    | zero => exact ⟨fun h => by omega, fun h => by cases h⟩
    | succ k =>
      rw [← momp_b (by omega)]
      omega
  unfold gmo
  cases ea : c_ahd T d w7 u0 f day p with
  | false =>
    rw [ea] at h1
    have : ¬ momp T d f p ≤ 2 * day := fun z => by have := h1.mp z; cases this
    rw [if_neg (by omega), Bool.false_and, if_neg (by decide), if_neg (by omega)]
  | true =>
    have := h1.mpr ea
    rw [if_pos (by omega)]
    cases eb : c_beh T d w7 u0 f day p with
    | false =>
      have : ¬ momp T d f p < 2 * day := fun z => by have := h2.mp z; rw [eb] at this; cases this
      rw [if_pos (by decide)]; omega
    | true =>
      have := h2.mpr eb
      rw [if_neg (by decide), if_pos this]
theorem gmo_b {T : Tn} {d : Nat → Nat} {f day p : Nat} (hd : day < 28) : gmo T d f (2 * (day + 1)) p = if (c_beh T d w7 u0 f (day + 1) p && !c_ahd T d w7 u0 f day p) then 2 * day + 1 else gmo T d f (2 * day + 1) p := by
  have h1 := momp_a (T := T) (d := d) (f := f) (p := p) hd
  have h2 := momp_b (T := T) (d := d) (f := f) (p := p) hd
  unfold gmo
  cases eb : c_beh T d w7 u0 f (day + 1) p with
  | false =>
    have : ¬ momp T d f p ≤ 2 * day + 1 := fun z => by have := h2.mp z; rw [eb] at this; cases this
    rw [if_neg (by omega), Bool.false_and, if_neg (by decide), if_neg (by omega)]
  | true =>
    have := h2.mpr eb
    rw [if_pos (by omega)]
    cases ea : c_ahd T d w7 u0 f day p with
    | false =>
      have : ¬ momp T d f p ≤ 2 * day := fun z => by have := h1.mp z; rw [ea] at this; cases this
      rw [if_pos (by decide)]; omega
    | true =>
      have := h1.mpr ea
      rw [if_neg (by decide), if_pos (by omega)]
theorem gmo_28 {T : Tn} {d : Nat → Nat} {f p : Nat} : gmo T d f (2 * 28) p = momp T d f p := by
  unfold gmo
  have := momp_lt T d f p
  split <;> omega
theorem gmo_st {T : Tn} {d : Nat → Nat} {f day p : Nat} (ok : OkT T) (od : OkD (T 0 0) d) (hd : T 3 f < day) (h28 : day < 28) (hs : stl T d w7 f (c_beh T d w7 u0 f day)) : gmo T d f (2 * day) p = momp T d f p := by
  unfold gmo
  by_cases e : momp T d f p < 2 * day
  · rw [if_pos e]
  · rw [if_neg e]
    rcases momp_lt T d f p with h | h
    · exfalso
      have hb : c_beh T d w7 u0 f day p = false := by
        cases eb : c_beh T d w7 u0 f day p with
        | false => rfl
        | true =>
          cases day with
          | zero => cases eb
          | succ k =>
            have := (momp_b (T := T) (d := d) (f := f) (p := p) (show k < 28 by omega)).mpr eb
            omega
      have hk := (momp_le (T := T) (d := d) (f := f) (p := p) h).mp (Nat.le_refl _)
      unfold kmo at hk
      have key := stl_beh ok od hd hs
      split at hk
      · obtain ⟨j, hj⟩ : ∃ j, momp T d f p / 2 = day + j := ⟨momp T d f p / 2 - day, by omega⟩
        rw [hj] at hk
        unfold c_ahd at hk
        rw [key j, stl_day ok od hs (by omega), hb] at hk
        cases hk
      · obtain ⟨j, hj⟩ : ∃ j, momp T d f p / 2 + 1 = day + j := ⟨momp T d f p / 2 + 1 - day, by omega⟩
        rw [hj, key j, hb] at hk
        cases hk
    · exact h.symm
theorem e_comings (h : Sp X c T d μ) (ok : OkT T) (od : OkD (T 0 0) d) (hF : SpF X T f w7 u0 μ) (hf : f < T 0 1) : f_X4_comings (X + 58) μ = some (mom T d f) := by
  have h1 := h.1.1
  obtain ⟨f2, f3⟩ := ok.2.2.2.2.1 f hf
  unfold f_X4_comings
  rw [if_pos (by rw [mk_58 h1]), rf_58 h1, ob, hF.1]
  have key := whl_e (body := f_X4_comings_L12 (X + 58) μ) (28 - T 3 f) (fun k (st : Int64 × Int32 × Int32) => st = (lN (mby (gmo T d f (2 * (T 3 f + k))) 8), nI (bm (c_beh T d w7 u0 f (T 3 f + k)) 8), nI (T 3 f + k))) (Q := fun r => r = .inl (mom T d f) ∨ r = .inr (mom T d f)) (s0 := ((-1 : Int64), (0 : Int32), nI (T 3 f))) ?_ ?_ ?_
  · obtain ⟨r, k1, k2 | k2⟩ := key
    · rw [k1, ob, k2]; rfl
    · rw [k1, ob, k2]; rfl
  · have e1 : mby (gmo T d f (2 * (T 3 f + 0))) 8 = 2 ^ 64 - 1 := by
      rw [mby_x (g' := fun _ => 255) (fun p _ => ?_)]
      · decide
      · unfold gmo
        rw [if_neg]
        intro z
        have : T 3 f ≠ 0 := by omega
        obtain ⟨k, hk⟩ : ∃ k, T 3 f = k + 1 := ⟨T 3 f - 1, by omega⟩
        have := (momp_b (T := T) (d := d) (f := f) (p := p) (show k < 28 by omega)).mp (by omega)
        rw [c_beh_f T d w7 u0 f (k + 1) (by omega)] at this
        cases this
    rw [e1, Nat.add_zero, c_beh_f T d w7 u0 f (T 3 f) (Nat.le_refl _), nz]
    rfl
  · rintro k st hk rfl
    obtain ⟨day, hday⟩ : ∃ day, day = T 3 f + k := ⟨_, rfl⟩
    have hd : day < 28 := by omega
    rw [show T 3 f + (k + 1) = day + 1 by omega, ← hday]
    simp only [f_X4_comings_L12, f_X4_comings_J59, f_X4_comings_J103]
    have bd := e_byDay (κ := c_beh T d w7 u0 f day) h1 ok od h.2.2.1 h.2.2.2 hF hf hd
    have bn := e_byNight (κ := c_ahd T d w7 u0 f day) h1 ok od h.2.2.1 h.2.2.2 hF hd
    replace bd : f_X4_byDay (X + 58) (nI (bm (c_beh T d w7 u0 f day) 8)) (nI day) μ = some (nI (bm (c_ahd T d w7 u0 f day) 8)) := bd
    replace bn : f_X4_byNight (X + 58) (nI (bm (c_ahd T d w7 u0 f day) 8)) (nI day) μ = some (nI (bm (c_beh T d w7 u0 f (day + 1)) 8)) := bn
    rw [if_neg (by rw [show (28 : Int32) = nI 28 from rfl, nI_le_i (by omega) (by omega)]; omega), bd, ob, bn, ob]
    have m1 : f_X4_withMoment (lN (mby (gmo T d f (2 * day)) 8)) (nI (bm (c_ahd T d w7 u0 f day) 8) &&& (nI (bm (c_beh T d w7 u0 f day) 8) ^^^ (-1 : Int32))) ((2 : Int32) * nI day) μ = some (lN (mby (gmo T d f (2 * day + 1)) 8)) := by
      rw [b_andn _ _ (by decide), show (2 : Int32) * nI day = nI (2 * day) from pk_mul 2 day, e_withM (gmo_256 T d f _) (by omega)]
      congr 2
      exact mby_x (fun p _ => (gmo_a hd).symm)
    have m2 : f_X4_withMoment (lN (mby (gmo T d f (2 * day + 1)) 8)) (nI (bm (c_beh T d w7 u0 f (day + 1)) 8) &&& (nI (bm (c_ahd T d w7 u0 f day) 8) ^^^ (-1 : Int32))) (((2 : Int32) * nI day) + 1) μ = some (lN (mby (gmo T d f (2 * (day + 1))) 8)) := by
      rw [b_andn _ _ (by decide), show (2 : Int32) * nI day = nI (2 * day) from pk_mul 2 day, nI_1, e_withM (gmo_256 T d f _) (by omega)]
      congr 2
      exact mby_x (fun p _ => (gmo_b hd).symm)
    have q1 : (nI (bm (c_ahd T d w7 u0 f day) 8) = nI (bm (c_beh T d w7 u0 f day) 8)) → mby (gmo T d f (2 * day + 1)) 8 = mby (gmo T d f (2 * day)) 8 := fun z => by
      rw [nI_eq_i (bm_31 _ (by decide)) (bm_31 _ (by decide))] at z
      refine mby_x (fun p hp => ?_)
      rw [gmo_a hd, bm_i z p hp, Bool.and_not_self, if_neg (by decide)]
    have q2 : (nI (bm (c_beh T d w7 u0 f (day + 1)) 8) = nI (bm (c_ahd T d w7 u0 f day) 8)) → mby (gmo T d f (2 * (day + 1))) 8 = mby (gmo T d f (2 * day + 1)) 8 := fun z => by
      rw [nI_eq_i (bm_31 _ (by decide)) (bm_31 _ (by decide))] at z
      refine mby_x (fun p hp => ?_)
      rw [gmo_b hd, bm_i z p hp, Bool.and_not_self, if_neg (by decide)]
    by_cases z1 : nI (bm (c_ahd T d w7 u0 f day) 8) = nI (bm (c_beh T d w7 u0 f day) 8)
    · rw [if_pos z1, if_pos z1, ← q1 z1]
      by_cases z2 : nI (bm (c_beh T d w7 u0 f (day + 1)) 8) = nI (bm (c_ahd T d w7 u0 f day) 8)
      · rw [if_pos z2]
        obtain ⟨r, r1, r2⟩ := e_still (κ := c_beh T d w7 u0 f day) h ok od hF
        rw [r1, ob]
        cases r with
        | false =>
          left
          exact ⟨_, by rw [if_pos (show nI false.toNat = 0 from rfl), ob, nI_1], by rw [q2 z2]⟩
        | true =>
          right
          refine ⟨_, by rw [if_neg (by decide)], Or.inl ?_⟩
          rw [q1 z1]
          unfold mom
          congr 2
          have hlt : T 3 f < day := by
            by_cases y : T 3 f = day
            · exfalso
              rw [nI_eq_i (bm_31 _ (by decide)) (bm_31 _ (by decide))] at z1
              have n8 := ok.1.1
              have a := bm_i z1 (T 2 f) (by omega)
              rw [← y, c_beh_f T d w7 u0 f (T 3 f) (Nat.le_refl _)] at a
              have : c_ahd T d w7 u0 f (T 3 f) (T 2 f) = true := by
                unfold c_ahd c_day
                have o1 : c_own T f (T 3 f) (c_beh T d w7 u0 f (T 3 f)) (T 2 f) = true := by unfold c_own; simp
                have o2 : c_np T d w7 (fun q => dl T q (T 3 f) || u0 q) f (T 3 f) (c_own T f (T 3 f) (c_beh T d w7 u0 f (T 3 f))) (T 2 f) = true := by
                  unfold c_np
                  split
                  · exact c_naps_m o1 8
                  · exact o1
                unfold c_tk
                split
                · exact c_tr_m o2 8
                · exact o2
              rw [this] at a
              cases a
            · omega
          exact mby_x (fun p _ => gmo_st ok od hlt hd (r2 rfl))
      · left
        exact ⟨_, by rw [if_neg z2, m2, ob, ob, nI_1], rfl⟩
    · rw [if_neg z1, m1, ob, if_neg z1]
      by_cases z2 : nI (bm (c_beh T d w7 u0 f (day + 1)) 8) = nI (bm (c_ahd T d w7 u0 f day) 8)
      · left
        exact ⟨_, by rw [if_pos z2, ob, nI_1], by rw [q2 z2]⟩
      · left
        exact ⟨_, by rw [if_neg z2, m2, ob, ob, nI_1], rfl⟩
  · rintro st rfl
    refine ⟨_, by simp only [f_X4_comings_L12]; rw [if_pos (show (28 : Int32) ≤ nI (T 3 f + (28 - T 3 f)) by rw [show T 3 f + (28 - T 3 f) = 28 by omega]; decide)], Or.inr ?_⟩
    unfold mom
    congr 2
    rw [show T 3 f + (28 - T 3 f) = 28 by omega]
    exact mby_x (fun p _ => gmo_28)
end COM
