/-! ===== the class's Spread ===== -/
theorem st2 {β : Type} {x y : Nat → Bool} {j j' : Int32} {n : Nat} (hj : j = j') (h : ∀ p, p < n → x p = y p) : (some (.inl (nI (bm x n), j)) : Option ((Int32 × Int32) ⊕ β)) = some (.inl (nI (bm y n), j')) := by
  rw [hj, bm_x h]
theorem bm_sh0 (b : Nat → Bool) (n i : Nat) : (bm b n / 2 ^ i = 0) = (∀ q, i ≤ q → q < n → b q = false) := by
  apply propext
  rw [Nat.div_eq_zero_iff_lt (Nat.two_pow_pos i)]
  constructor
  · intro h q h1 h2
    have h3 := Nat.testBit_lt_two_pow (Nat.lt_of_lt_of_le h (Nat.pow_le_pow_right (by decide) h1))
    rw [bm_t, decide_eq_true h2] at h3
    exact h3
  · intro h
    apply Nat.lt_pow_two_of_testBit
    intro q hq
    rw [bm_t]
    by_cases h2 : q < n
    · rw [h q hq h2]; simp
    · rw [decide_eq_false h2]; rfl
theorem c_tr_0 (T : Tn) (day a : Nat) (κ : Nat → Bool) (m : Nat) (h : ∀ k, a ≤ k → k < a + m → (decide (k < T 0 2) && day % T 6 k == 0) = false) : c_tr T day a κ m = κ := by
  induction m with
  | zero => rfl
  | succ m ih =>
    show c_talk T day (a + m) (c_tr T day a κ m) = κ
    rw [ih (fun k h1 h2 => h k h1 (by omega))]
    funext p
    show (κ p || _) = κ p
    rw [h (a + m) (by omega) (by omega)]
    simp
theorem e_byTalks {X c f day a m : Nat} {T : Tn} {w us κ : Nat → Bool} {μ : Mm} (h : Sh X μ) (ok : OkT T) (hT : SpT X c T μ) (hF : SpF X T f w us μ) (hd : day < 28) (ha : a + m ≤ 8) : f_X4_byTalks (X + 58) (nI (bm κ 8)) (nI day) (nI a) (nI (a + m)) μ = some (nI (bm (if (w 1 && !(T 0 4).testBit f) then c_tr T day a κ m else κ) 8)) := by
  obtain ⟨-, -, -, -, h12, -⟩ := hF
  obtain ⟨-, hT2, -, hT4⟩ := hT
  obtain ⟨-, -, g3⟩ := hT2 day hd
  have hn := ok.1.2.2.1
  have hn0 := ok.1.1
  have hw := ok.2.2.2.2.2.1
  unfold f_X4_byTalks
  simp only [kt_58 h, rf_58 h, rp_58_2 h, ob, if_true, h12, nI_b0, ra_61 h hd, g3, nI_z (bm_31 _ (by decide : 8 ≤ 31)), bm_z]
  by_cases e1 : (w 1 && !(T 0 4).testBit f) = true
  · rw [if_neg (by rw [e1]; decide), if_neg (show ¬ nI day < 0 from nI_pos (by omega)), if_neg (show ¬ (28 : Int32) ≤ nI day by rw [show (28 : Int32) = nI 28 from rfl, nI_le_i (by omega) (by omega)]; omega), if_pos e1]
    by_cases e2 : ∀ i, i < 8 → (decide (i < T 0 2) && day % T 6 i == 0) = false
    · rw [if_pos e2, c_tr_0 _ _ _ _ _ (fun k h1 h2 => e2 k (by omega))]
    · rw [if_neg e2]
      refine whl_b m (fun i => (nI (bm (c_tr T day a κ i) 8), nI (a + i))) (b := nI (bm (c_tr T day a κ m) 8)) rfl (fun i hi => ?_) ?_
      · have hi8 : a + i < 8 := by omega
        simp only [f_X4_byTalks_L34, f_X4_byTalks_J75, f_X4_byTalks_J107, rp_58_2 h, rp_58_6 h, ln_65 h, ob, ra_61 h hd, g3, bmb hi8 (by decide : 8 ≤ 31), nI_b0, nI_1, ra_65 h hi8]
        rw [if_neg (show ¬ nI (a + i) < 0 from nI_pos (by omega)), if_neg (by rw [nI_le_i (by omega) (by omega)]; omega), if_neg (by rw [nI_le_i (by omega) (by omega)]; omega)]
        by_cases e3 : (decide (a + i < T 0 2) && day % T 6 (a + i) == 0) = true
        · have e4 : a + i < T 0 2 := by grind
          have hq := hw (a + i) e4
          rw [if_neg (by rw [e3]; decide), if_neg (by decide), hT4 (a + i) e4, nI_and, bm_and, nI_or, bm_or]
          simp only [nI_z (bm_31 _ (by decide : 8 ≤ 31)), bm_z]
          by_cases e5 : ∀ j, j < 8 → (c_tr T day a κ i j && (j == T 4 (a + i) || j == T 5 (a + i))) = false
          · rw [if_pos e5]
            have h4 := e5 (T 4 (a + i)) (by omega)
            have h5 := e5 (T 5 (a + i)) (by omega)
            refine st2 rfl (fun p hp => ?_)
            show _ = (_ || _)
            grind
          · rw [if_neg e5]
            have h6 : (c_tr T day a κ i (T 4 (a + i)) || c_tr T day a κ i (T 5 (a + i))) = true := by
              cases h7 : (c_tr T day a κ i (T 4 (a + i)) || c_tr T day a κ i (T 5 (a + i))) with
              | true => rfl
              | false => exact absurd (fun j hj => by grind) e5
            refine st2 rfl (fun p hp => ?_)
            show _ = (_ || _)
            grind
        · rw [if_pos (by simpa using e3), if_pos True.intro]
          refine st2 rfl (fun p hp => ?_)
          show _ = (_ || _)
          grind
      · simp only [f_X4_byTalks_L34]
        rw [if_neg (show ¬ nI (a + m) < 0 from nI_pos (by omega)), if_pos (nI_le (Nat.le_refl _) (by omega))]
  · rw [if_pos (by simpa using e1), if_neg e1]
theorem c_tr_z (T : Tn) (day : Nat) (κ : Nat → Bool) (w : Nat → Bool) (f : Nat) (h : ∀ i, i < 8 → (decide (i < T 0 2) && day % T 6 i == 0) = false) : c_tk T w f day κ = κ := by
  unfold c_tk c_talks
  split
  · exact c_tr_0 _ _ _ _ _ (fun k _ h2 => h k (by omega))
  · rfl
theorem c_np_z (T : Tn) (d : Nat → Nat) (day : Nat) (κ : Nat → Bool) (w u : Nat → Bool) (f : Nat) (h : ∀ i, i < 8 → (decide (i < T 0 3) && T 8 i == day) = false) : c_np T d w u f day κ = κ := by
  unfold c_np
  split
  · have key : ∀ k, k ≤ 8 → c_naps T d u day κ k = κ := by
      intro k
      induction k with
      | zero => intro _; rfl
      | succ k ih =>
        intro hk
        show c_nap _ _ _ _ _ (c_naps _ _ _ _ _ _) = _
        rw [ih (by omega)]
        funext p
        show (κ p || _) = κ p
        rw [h k (by omega)]
        simp
    exact key 8 (by decide)
  · rfl
theorem e_byDay {X c f day : Nat} {T : Tn} {d : Nat → Nat} {w us κ : Nat → Bool} {μ : Mm} (h : Sh X μ) (ok : OkT T) (od : OkD (T 0 0) d) (hT : SpT X c T μ) (hD : SpD X d μ) (hF : SpF X T f w us μ) (hf : f < T 0 1) (hd : day < 28) : f_X4_byDay (X + 58) (nI (bm κ 8)) (nI day) μ = some (nI (bm (c_day T d w (fun q => dl T q day || us q) f day κ) 8)) := by
  have hff := ok.2.2.2.2.1 f hf
  have hn0 := ok.1.1
  have i1 := fun κ => e_byItself (κ := κ) h hF (by omega : T 2 f < 8) hd hff.2
  have i2 := fun κ => e_byNaps (κ := κ) h ok od hT hD hF hd
  have i3 := fun κ => e_byTalks (κ := κ) (a := 0) (m := 8) h ok hT hF hd (by decide)
  obtain ⟨-, hT2, -, -⟩ := hT
  obtain ⟨-, g2, g3⟩ := hT2 day hd
  have e28 : (28 : Int32) = nI 28 := rfl
  unfold f_X4_byDay
  simp only [kt_58 h, rp_58_1 h, rp_58_2 h, ob, if_true, ra_60 h hd, ra_61 h hd, g2, g3, nI_or, bm_or, nI_z (bm_31 _ (by decide : 8 ≤ 31)), bm_z]
  rw [if_neg (nI_pos (by omega)), if_pos (by rw [e28, nI_lt_i (by omega) (by omega)]; exact hd)]
  by_cases e : ∀ i, i < 8 → ((decide (i < T 0 3) && T 8 i == day) || (decide (i < T 0 2) && day % T 6 i == 0)) = false
  · rw [if_pos e, i1, ob]
    unfold c_day
    rw [c_tr_z _ _ _ _ _ (fun i hi => by have := e i hi; grind), c_np_z _ _ _ _ _ _ _ (fun i hi => by have := e i hi; grind)]
  · rw [if_neg e, i1, ob, i2, ob]
    exact (congrArg (fun z => z.bind fun x => some x) (i3 _)).trans rfl
theorem anyb_eq (q n : Nat) (g : Nat → Bool) : anyb (fun i => g i && q == i) n = (decide (q < n) && g q) := by
  induction n with
  | zero => simp [anyb]
  | succ n ih =>
    show (anyb _ n || _) = _
    rw [ih]
    by_cases h : q = n
    · subst h; simp
    · by_cases h2 : q < n
      · have : q < n + 1 := by omega
        simp [h2, this, h]
      · have : ¬ q < n + 1 := by omega
        simp [h2, this, h]
theorem e_byNight {X c f day : Nat} {T : Tn} {d : Nat → Nat} {w us κ : Nat → Bool} {μ : Mm} (h : Sh X μ) (ok : OkT T) (od : OkD (T 0 0) d) (hT : SpT X c T μ) (hD : SpD X d μ) (hF : SpF X T f w us μ) (hd : day < 28) : f_X4_byNight (X + 58) (nI (bm κ 8)) (nI day) μ = some (nI (bm (c_ngt T d w (fun q => dl T q day || us q) f κ) 8)) := by
  obtain ⟨-, -, h10, h11, -, -⟩ := hF
  obtain ⟨-, hT2, -, -⟩ := hT
  obtain ⟨g1, -, -⟩ := hT2 day hd
  have hn0 := ok.1.1
  have e28 : (28 : Int32) = nI 28 := rfl
  have e8 : (8 : Int32) = nI 8 := rfl
  unfold f_X4_byNight c_ngt
  simp only [kt_58 h, rf_58 h, rp_58_0 h, ob, if_true, h10, h11, nI_b0, ra_59 h hd, g1, nI_or, bm_or, b_andn _ _ (by decide : 8 ≤ 31)]
  rw [if_neg (nI_pos (by omega) : ¬ nI day < 0), if_pos (by rw [e28, nI_lt_i (by omega) (by omega)]; exact hd : nI day < 28)]
  by_cases e1 : (w 0 && !(T 0 8).testBit f) = true
  · rw [if_neg (by rw [e1]; decide), if_pos e1]
    have fin : ∀ i, i ≤ 8 → (∀ q, i ≤ q → q < 8 → (κ q && !(dl T q day || us q)) = false) → bm (fun p => κ p || anyb (fun q => (κ q && !(dl T q day || us q)) && d p == q) i) 8 = bm (c_nit d (fun q => dl T q day || us q) κ) 8 := by
      intro i hi hz
      apply bm_x
      intro p hp
      rw [anyb_eq]
      unfold c_nit
      have h1 := od.1 p
      by_cases h2 : d p = 15
      · simp [h2]; intro h3; omega
      · by_cases h3 : d p < i
        · simp [h2, h3]; grind
        · have := hz (d p) (by omega) (by omega)
          simp [h2, h3]; grind
    refine (whl_fb 8 (fun i => (nI (bm (fun p => κ p || anyb (fun q => (κ q && !(dl T q day || us q)) && d p == q) i) 8), nI i)) (fun i => bm (fun q => κ q && !(dl T q day || us q)) 8 / 2 ^ i == 0) (fun i => nI (bm (fun p => κ p || anyb (fun q => (κ q && !(dl T q day || us q)) && d p == q) i) 8)) (b := nI (bm (fun p => κ p || anyb (fun q => (κ q && !(dl T q day || us q)) && d p == q) 8) 8)) ?_ (fun i hi hp => ?_) (fun i hi hp => ?_) ?_).trans ?_
    · simp [anyb]; rfl
    · have hp2 : ¬ (bm (fun q => κ q && !(dl T q day || us q)) 8 / 2 ^ i = 0) := by simpa using hp
      have hz : bm (fun q => κ q && !(dl T q day || us q)) 8 / 2 ^ i < 2 ^ 31 := Nat.lt_of_le_of_lt (Nat.div_le_self _ _) (bm_31 _ (by decide))
      simp only [f_X4_byNight_L41, f_X4_byNight_J76, rp_58_4 h, ra_63 h hi, ob, hD.2 i hi, bmb hi (by decide : 8 ≤ 31), nI_b0, nI_1, nI_or, bm_or]
      rw [if_neg (by rw [e8, nI_le_i (by omega) (by omega)]; omega), if_neg (by rw [b_shr (by omega) (bm_31 _ (by decide)), nI_z hz]; exact hp2)]
      by_cases e3 : (κ i && !(dl T i day || us i)) = true
      · rw [if_neg (by rw [e3]; decide)]
        refine st2 rfl (fun p hp => ?_)
        show _ = (_ || (_ || _))
        dsimp only
        rw [e3]
        grind
      · rw [if_pos (by simpa using e3)]
        refine st2 rfl (fun p hp => ?_)
        show _ = (_ || (_ || _))
        dsimp only
        have e4 : (κ i && !(dl T i day || us i)) = false := by simpa using e3
        rw [e4]
        simp
    · have hp2 : (bm (fun q => κ q && !(dl T q day || us q)) 8 / 2 ^ i = 0) := by simpa using hp
      simp only [f_X4_byNight_L41]
      rw [if_neg (by rw [e8, nI_le_i (by omega) (by omega)]; omega), if_pos (by rw [b_shr (by omega) (bm_31 _ (by decide)), hp2]; rfl)]
    · simp only [f_X4_byNight_L41]
      rw [if_pos (by decide)]
    · cases e : ff (fun i => bm (fun q => κ q && !(dl T q day || us q)) 8 / 2 ^ i == 0) 8 with
      | none => show some _ = _; rw [fo, fin 8 (by decide) (fun q h1 h2 => by omega)]
      | some i =>
        obtain ⟨h1, h2, -⟩ := ff_some.mp e
        have h2 : (bm (fun q => κ q && !(dl T q day || us q)) 8 / 2 ^ i = 0) := by simpa using h2
        rw [bm_sh0] at h2
        show some _ = _
        rw [fo, fin i (by omega) h2]
  · rw [if_pos (by simpa using e1), if_neg e1]
