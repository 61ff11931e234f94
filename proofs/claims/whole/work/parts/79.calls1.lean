/-! ===== small tests of both halves ===== -/
theorem bz_01 (p : Prop) [Decidable p] : bz p = 0 ∨ bz p = 1 := by
  unfold bz
  split
  · exact Or.inr rfl
  · exact Or.inl rfl
theorem bz_if {p : Prop} [Decidable p] {α : Type} (x y : α) : (if bz p = 0 then x else y) = if p then y else x := by
  by_cases h : p
  · rw [bz_t h, if_neg (by decide), if_pos h]
  · rw [bz_f h, if_pos rfl, if_neg h]
theorem two_ends' {p : Int32} {n : Nat} (hn : n < 2 ^ 31) {α : Type} (x y : α) : (if p < 0 then y else if nI n < p then y else x) = if inR p (n + 1) then x else y := by
  by_cases h0 : p.toInt < 0
  · rw [if_pos (by rw [lt0]; exact h0), if_neg (by unfold inR; omega)]
  · rw [if_neg (by rw [lt0]; exact h0)]
    by_cases h1 : (n : Int) < p.toInt
    · rw [if_pos (by rw [lt_nI hn]; exact h1), if_neg (by unfold inR; omega)]
    · rw [if_neg (by rw [lt_nI hn]; exact h1), if_pos (by unfold inR; omega)]
theorem two_ends2 {p : Int32} {n : Nat} (hn : n < 2 ^ 31) {α : Type} (x y : α) : (if p < 0 then y else if p ≤ nI n then x else y) = if inR p (n + 1) then x else y := by
  by_cases h0 : p.toInt < 0
  · rw [if_pos (by rw [lt0]; exact h0), if_neg (by unfold inR; omega)]
  · rw [if_neg (by rw [lt0]; exact h0)]
    by_cases h1 : p.toInt ≤ (n : Int)
    · rw [if_pos (by rw [nI_le' hn]; exact h1), if_pos (by unfold inR; omega)]
    · rw [if_neg (by rw [nI_le' hn]; exact h1), if_neg (by unfold inR; omega)]
theorem two_ends3 {p : Int32} {n : Nat} (hn : n < 2 ^ 31) {α : Type} (x y : α) : (if p < 0 then y else if p < nI n then x else y) = if inR p n then x else y := by
  by_cases h0 : p.toInt < 0
  · rw [if_pos (by rw [lt0]; exact h0), if_neg (by unfold inR; omega)]
  · rw [if_neg (by rw [lt0]; exact h0)]
    by_cases h1 : p.toInt < (n : Int)
    · rw [if_pos (by rw [nI_lt' hn]; exact h1), if_pos (by unfold inR; omega)]
    · rw [if_neg (by rw [nI_lt' hn]; exact h1), if_neg (by unfold inR; omega)]
theorem ge0 (p : Int32) : ((0 : Int32) ≤ p) = (0 ≤ p.toInt) := by
  apply propext
  rw [Int32.le_iff_toInt_le]
  have h0 : (0 : Int32).toInt = 0 := by decide
  rw [h0]
theorem in_k {v : Int32} {n : Nat} (hn : n < 2 ^ 31) : ((0 : Int32) ≤ v ∧ v ≤ nI n) = inR v (n + 1) := by
  rw [ge0, nI_le' hn]
  apply propext
  unfold inR
  omega
theorem in_n {v : Int32} {n : Nat} (hn : n < 2 ^ 30) : ((0 : Int32) ≤ v ∧ v ≤ nI n - 1) = inR v n := by
  rw [ge0]
  have h : (nI n - nI 1).toInt = (n : Int) - (1 : Nat) := pk_sub_toInt hn (by decide)
  have h2 : (v ≤ nI n - 1) = (v.toInt ≤ (n : Int) - 1) := by
    apply propext
    rw [Int32.le_iff_toInt_le, show (1 : Int32) = nI 1 from rfl, h]
    rfl
  rw [h2]
  apply propext
  unfold inR
  omega
theorem bz_p {p q : Prop} [Decidable p] [Decidable q] (h : p = q) : bz p = bz q := by
  unfold bz
  by_cases e : q
  · rw [if_pos (h ▸ e), if_pos e]
  · rw [if_neg (h ▸ e), if_neg e]
theorem e_inK {v : Int32} {n : Nat} {μ : Mm} (hn : n < 2 ^ 31) : f_X11_in v (0 : Int32) (nI n) μ = some (bz (inR v (n + 1))) := by rw [e_in, bz_p (in_k hn)]
theorem e_inN {v : Int32} {n : Nat} {μ : Mm} (hn : n < 2 ^ 30) : f_X11_in v (0 : Int32) (nI n - 1) μ = some (bz (inR v n)) := by rw [e_in, bz_p (in_n hn)]
theorem c_isDay {p : Int32} {μ : Mm} : f_X10_isDay p μ = some (bz (inR p 28)) := by
  unfold f_X10_isDay f_X10_isDay_J14
  rw [show (28 : Int32) = nI 28 from rfl, two_ends (by decide)]
  unfold bz
  split <;> rfl
theorem c_areWays {p : Int32} {μ : Mm} : f_X10_areWays p μ = some (bz (inR p 8)) := by
  unfold f_X10_areWays f_X10_areWays_J14
  rw [show (7 : Int32) = nI 7 from rfl, two_ends' (by decide)]
  unfold bz
  split <;> rfl
theorem c_isStep {p : Int32} {μ : Mm} : f_X10_isStep p μ = some (bz (inR p 1000)) := by
  unfold f_X10_isStep f_X10_isStep_J15
  rw [show (999 : Int32) = nI 999 from rfl, two_ends' (by decide)]
  unfold bz
  split <;> rfl
theorem r_isDay {p : Int32} {μ : Mm} : f_X11_isDay p μ = some (bz (inR p 28)) := by
  unfold f_X11_isDay
  rw [show (27 : Int32) = nI 27 from rfl, e_inK (by decide), ob, if_pos (bz_01 _)]
theorem r_areWays {p : Int32} {μ : Mm} : f_X11_areWays p μ = some (bz (inR p 8)) := by
  unfold f_X11_areWays
  rw [show (7 : Int32) = nI 7 from rfl, e_inK (by decide), ob, if_pos (bz_01 _)]
theorem r_isStep {p : Int32} {μ : Mm} : f_X11_isStep p μ = some (bz (inR p 1000)) := by
  unfold f_X11_isStep
  rw [show (999 : Int32) = nI 999 from rfl, e_inK (by decide), ob, if_pos (bz_01 _)]
theorem r_isSlot {p : Int32} {μ : Mm} : f_X11_isSlot p μ = some (bz (inR p 3)) := by
  unfold f_X11_isSlot
  rw [show (2 : Int32) = nI 2 from rfl, e_inK (by decide), ob, if_pos (bz_01 _)]
theorem r_isPerson {X : Nat} {T : Tn} {p : Int32} {μ : Mm} (h : Sh X μ) (hm : MTn (X + 90) 0 T μ) (ok : OkT T) : f_X11_isPerson (X + 90) p μ = some (bz (inR p (T 0 0))) := by
  have := ok.1.1
  unfold f_X11_isPerson
  rw [if_pos (by rw [mk_90 h]), rp_90_12 h, ob, mr_n0 h hm, ob, e_inN (by omega), ob, if_pos (bz_01 _)]
theorem r_isFact {X : Nat} {T : Tn} {p : Int32} {μ : Mm} (h : Sh X μ) (hm : MTn (X + 90) 0 T μ) (ok : OkT T) : f_X11_isFact (X + 90) p μ = some (bz (inR p (T 0 1))) := by
  have := ok.1.2.1
  unfold f_X11_isFact
  rw [if_pos (by rw [mk_90 h]), rp_90_12 h, ob, mr_n1 h hm, ob, e_inN (by omega), ob, if_pos (bz_01 _)]
/-! what the class's half gives -/
theorem cb_c {X c : Nat} {μ : Mm} (h : Cb X c μ) : c = X + 21 ∨ c = X + 39 := by have := h.2.1; omega
theorem cb_w {X c : Nat} {μ : Mm} (h : Cb X c μ) : TwS c (mm_K μ) (mm_P μ) := by
  rcases cb_c h with e | e
  · rw [e]; exact tws_21 h.1
  · rw [e]; exact tws_39 h.1
theorem cb_p {X c : Nat} {μ : Mm} (h : Cb X c μ) : gf_P 11 13 X μ = some c := e_gfP (by rw [mk_0 h.1]) h.2.2.1
theorem lenE {T : Tn} (ok : OkT T) : (EN T).length < 2 ^ 30 := by have := EN_len ok; omega
/-! ===== calls that write nothing ===== -/
theorem k_fault {X i c : Nat} {s : Sv} {μ : Mm} (a : Int32) (h : IC X i c s μ) (hR : IR X s μ) : ∃ r, f_X10_fault X a μ = some r ∧ f_X11_fault (X + 90) a μ = some r := by
  have h1 := h.1.1
  have h2 := h.2.2.2.1
  have h3 := hR.2.2.2.1
  refine ⟨if a = 0 then s.2.2.2.2.1.1 else if a = 1 then s.2.2.2.2.1.2 else -1, ?_, ?_⟩
  · unfold f_X10_fault
    simp only [kt_0 h1, if_true, rp_0_2 h1, ob, rf_57 h1, h2.1, h2.2]
    split
    · rfl
    · split <;> rfl
  · unfold f_X11_fault
    simp only [kt_90 h1, if_true, ob, rf_90 h1, h3.1, h3.2]
    split
    · rfl
    · split <;> rfl
theorem k_turnings {X i c : Nat} {s : Sv} {μ : Mm} (h : IC X i c s μ) (hR : IR X s μ) : ∃ r, f_X10_turnings X μ = some r ∧ f_X11_turnings (X + 90) μ = some r := by
  have h1 := h.1.1
  refine ⟨nI (EN s.1).length, ?_, ?_⟩
  · unfold f_X10_turnings
    rw [if_pos (by rw [mk_0 h1]), cb_p h.1, ob, tc_p8 (cb_w h.1), ob, e_howMany (cb_w h.1) h.2.1.2.2.2.1, ob]
  · unfold f_X11_turnings
    rw [if_pos (by rw [mk_90 h1]), rf_90 h1, ob, hR.2.1.2.2.1]
theorem k_wishes {X i c : Nat} {s : Sv} {μ : Mm} (h : IC X i c s μ) (hR : IR X s μ) : ∃ r, f_X10_wishes X μ = some r ∧ f_X11_wishes (X + 90) μ = some r := by
  have h1 := h.1.1
  refine ⟨nI (s.1 0 9), ?_, ?_⟩
  · unfold f_X10_wishes
    rw [if_pos (by rw [mk_0 h1]), cb_p h.1, ob, tc_p7 (cb_w h.1), ob, ct_s12 (cb_w h.1) h.2.1.2.2.1, ob]
  · unfold f_X11_wishes
    rw [if_pos (by rw [mk_90 h1]), rp_90_12 h1, ob, mr_n9 h1 hR.2.1.1, ob]
theorem r_row {X t : Nat} {T : Tn} {s : Nat} {μ : Mm} (h : Sh X μ) (hR : Rt X T s μ) (ok : OkT T) (ht : t < (EN T).length) : ga_L (X + 110) (nI t) μ = some (lN (rwT T t)) := by
  have := EN_len ok
  rw [ra_110 h (by omega), hR.2.2.2.2.2 t ht]
theorem k_dreams {X i c : Nat} {s : Sv} {μ : Mm} (a : Int32) (h : IC X i c s μ) (hR : IR X s μ) : ∃ r, f_X10_dreams X a μ = some r ∧ f_X11_dreams (X + 90) a μ = some r := by
  have h1 := h.1.1
  obtain ⟨ok, ht, hct, -, -, h15⟩ := h.2.1
  have hn := ok.1.1
  unfold f_X10_dreams f_X11_dreams
  rw [if_pos (by rw [mk_0 h1]), if_pos (by rw [mk_90 h1]), cb_p h.1, ob, e_isPerson' (cb_w h.1) hct ok, ob, bz_if, r_isPerson h1 hR.2.1.1 ok, ob, bz_if]
  by_cases e : inR a (s.1 0 0)
  · rw [if_pos e, if_pos e]
    obtain ⟨p, hp, rfl⟩ := inR_ex e (by omega)
    refine ⟨dI (dr s.1 s.2.1 p), ?_, ?_⟩
    · rw [rf_0 h1, ob, h15, e_dreamOf (cr_lt _ _) (by omega), ob, dr_nb (by omega)]
    · rw [rp_90_34 h1, ob, rf_90 h1, ob, hR.2.1.2.2.2.1, r_row h1 hR.2.1 ok ht, ob, dr_R ok ht p hp, ob]
  · rw [if_neg e, if_neg e]
    exact ⟨_, rfl, rfl⟩
theorem k_told {X i c : Nat} {s : Sv} {μ : Mm} (a : Int32) (h : IC X i c s μ) (hR : IR X s μ) : ∃ r, f_X10_told X a μ = some r ∧ f_X11_told (X + 90) a μ = some r := by
  have h1 := h.1.1
  have hw := cb_w h.1
  have hp := cb_p h.1
  obtain ⟨ok, ht, hct, -, -, h15⟩ := h.2.1
  have hm := hR.2.1.1
  have hn := ok.1.1
  have hn1 := ok.1.2.1
  unfold f_X10_told f_X11_told
  simp only [kt_0 h1, kt_90 h1, if_true]
  rw [show (5 : Int32) = nI 5 from rfl, e_inK (by decide), ob, bz_if]
  by_cases e : inR a 6
  · obtain ⟨j, hj, rfl⟩ := inR_ex e (by decide)
    have hr : (gf_P 12 12 (X + 90) μ).bind (fun x10 => (ga_I x10 (nI j) μ).bind fun x14 => some x14) = some (nI (s.1 0 j)) := by rw [rp_90_12 h1, ob, mr_n h1 hm (by omega), ob]
    have hz : ∀ k, k < 6 → ((nI j = nI k) = (j = k)) := fun k hk => nI_eq_i (by omega) (by omega)
    refine ⟨nI (s.1 0 j), ?_, by rw [if_pos e]; exact hr⟩
    simp only [hp, ob, show (0 : Int32) = nI 0 from rfl, show (1 : Int32) = nI 1 from rfl, show (2 : Int32) = nI 2 from rfl, show (3 : Int32) = nI 3 from rfl, show (4 : Int32) = nI 4 from rfl, hz 0 (by decide), hz 1 (by decide), hz 2 (by decide), hz 3 (by decide), hz 4 (by decide), hz 5 (by decide), ct_n hw hct, tc_p3 hw, tc_p4 hw, tc_p5 hw, ct_s4 hw hct, ct_s6 hw hct, ct_s8 hw hct, ct_lw hw hct, ct_yr hw hct]
    by_cases e0 : j = 0
    · rw [if_pos e0, e0]
    · rw [if_neg e0]
      by_cases e1 : j = 1
      · rw [if_pos e1, e1]
      · rw [if_neg e1]
        by_cases e2 : j = 2
        · rw [if_pos e2, e2]
        · rw [if_neg e2]
          by_cases e3 : j = 3
          · rw [if_pos e3, e3]
          · rw [if_neg e3]
            by_cases e4 : j = 4
            · rw [if_pos e4, e4]
            · rw [if_neg e4, if_pos (by omega), show j = 5 by omega]
  · have hne : ∀ k, k < 6 → ¬ a = nI k := fun k hk ha => e (by rw [ha]; exact inR_nI hk (by decide))
    rw [if_neg e, if_neg (show ¬ a = 0 from hne 0 (by decide)), if_neg (show ¬ a = 1 from hne 1 (by decide)), if_neg (show ¬ a = 2 from hne 2 (by decide)), if_neg (show ¬ a = 3 from hne 3 (by decide)), if_neg (show ¬ a = 4 from hne 4 (by decide)), if_neg (hne 5 (by decide))]
    unfold f_X10_toldOfOne
    simp only [kt_0 h1, if_true, hp, ob, e_isPerson' hw hct ok, e_isFact' hw hct ok, r_isPerson h1 hm ok, r_isFact h1 hm ok, bz_if]
    by_cases g1 : inR (a - 10) (s.1 0 0)
    · obtain ⟨p, hp1, hp2⟩ := inR_ex g1 (by omega)
      rw [hp2] at g1
      simp only [if_pos g1, hp2, e_isAlone hw hct ok (by omega : p < 32), e_isAloneR h1 hm ok (by omega : p < 32), ob]
      cases (s.1 0 7).testBit p
      · exact ⟨_, rfl, rfl⟩
      · exact ⟨_, rfl, rfl⟩
    · simp only [if_neg g1]
      by_cases g2 : inR (a - 20) (s.1 0 0)
      · obtain ⟨p, hp1, hp2⟩ := inR_ex g2 (by omega)
        rw [hp2] at g2
        simp only [if_pos g2, hp2, e_toldDreamOf hw hct ok hp1, rp_90_14 h1, mr_94 h1 hm (by omega : p < 8), ob]
        refine ⟨_, rfl, ?_⟩
        by_cases e0 : s.1 1 p = 0
        · rw [if_pos e0, e0]; rfl
        · rw [if_neg e0, show (1 : Int32) = nI 1 from rfl, pk_sub (by omega)]
      · simp only [if_neg g2]
        by_cases g3 : inR (a - 30) (s.1 0 1)
        · obtain ⟨p, hp1, hp2⟩ := inR_ex g3 (by omega)
          rw [hp2] at g3
          simp only [if_pos g3, hp2, tc_p3 hw, ct_4_0 hw hct ok hp1, rp_90_15 h1, mr_95 h1 hm ok hp1, ob]
          exact ⟨_, rfl, rfl⟩
        · simp only [if_neg g3]
          by_cases g4 : inR (a - 50) (s.1 0 1)
          · obtain ⟨p, hp1, hp2⟩ := inR_ex g4 (by omega)
            rw [hp2] at g4
            simp only [if_pos g4, hp2, tc_p3 hw, ct_4_1 hw hct ok hp1, rp_90_16 h1, mr_96 h1 hm ok hp1, ob]
            exact ⟨_, rfl, rfl⟩
          · simp only [if_neg g4]
            exact ⟨_, rfl, rfl⟩
theorem k_count {X i c : Nat} {s : Sv} {μ : Mm} (a : Int32) (h : IC X i c s μ) (hR : IR X s μ) : ∃ r, f_X10_count X a μ = some r ∧ f_X11_count (X + 90) a μ = some r := by
  have h1 := h.1.1
  have hw := cb_w h.1
  have hp := cb_p h.1
  obtain ⟨ok, ht, hct, -, -, h15⟩ := h.2.1
  have hr := h.2.2.2.2.2.1.2.1
  have hr' := hR.2.2.2.2.2.1
  have hA := h.2.2.2.2.1.2.1
  have hA' := hR.2.2.2.2.1.1
  refine ⟨if a = 0 then nI (s.1 0 12) else if a = 1 then nI (s.2.2.2.2.2.1 8 0) else if a = 2 then nI (s.2.2.2.2.2.1 8 1) else if a = 3 then (if (s.2.2.2.2.2.2 0).1 = false then 0 else nI (s.2.2.2.2.2.2 0).2.2.2.1) else if a = 4 then nI s.2.2.1 else -1, ?_, ?_⟩
  · unfold f_X10_count
    simp only [kt_0 h1, if_true, hp, ob, ct_cl hw hct, rp_0_4 h1, rp_0_6 h1, rp_0_0 h1, rf_4 h1, rf_13 h1, rf_1 h1, hA.1, hA.2.1, h.2.2.1.2.2.1, hr.1, nI_b0]
    cases e : (s.2.2.2.2.2.2 0).1 with
    | false => simp only [if_true]; repeat' split <;> first | rfl | skip
    | true => simp only [(hr.2 e).2.2.1]; repeat' split <;> first | rfl | skip
  · unfold f_X11_count
    simp only [kt_90 h1, if_true, ob, rf_90 h1, hA'.1, hA'.2.1, hR.2.1.2.1, hR.2.2.1.1, hr'.1, nI_b0]
    cases e : (s.2.2.2.2.2.2 0).1 with
    | false => simp only [if_true]; repeat' split <;> first | rfl | skip
    | true => simp only [(hr'.2 e).2.2.1]; repeat' split <;> first | rfl | skip
theorem bsh_lt {g : Bool} {f : Nat} (hf : f < 31) : g.toNat * 2 ^ f < 2 ^ 32 := by
  have h1 : g.toNat ≤ 1 := by cases g <;> decide
  have h2 : 2 ^ f ≤ 2 ^ 30 := Nat.pow_le_pow_right (by decide) (by omega)
  have := Nat.mul_le_mul h1 h2
  omega
theorem e_knownTo {a p : Nat} {g : Nat → Nat → Bool} {μ : Mm} (hK : mm_K μ a = (4, 0)) (hP : mm_P μ a 0 = some (a + 1)) (hK2 : mm_K μ (a + 1) = (20, 12)) (hg : ∀ f, f < 12 → mm_I μ (a + 1) f = nI (bm (fun p => g p f) 8)) (hp : p < 8) : f_X3_knownTo a (nI p) μ = some (nI (bm (g p) 12)) := by
  unfold f_X3_knownTo
  rw [if_pos (by rw [hK])]
  refine whl_b 12 (fun f => (nI (bm (fun x => decide (x < f) && g p x) 12), nI f)) ?_ (fun f hf => ?_) ?_
  · have : (fun x => decide (x < 0) && g p x) = fun _ => false := by funext x; simp
    rw [this, ← bm_0]; rfl
  · simp only [f_X3_knownTo_L4]
    rw [if_neg (by rw [show (12 : Int32) = nI 12 from rfl, nI_le_i (by omega) (by omega)]; omega), e_gfP (by rw [hK]) hP, ob, e_gaI hK2 hf (by decide), ob, hg f hf, bmb hp (by decide), ob, ob, nI_1]
    have e : nI (g p f).toNat <<< (nI f &&& 31) = nI (if g p f then 2 ^ f else 0) := by
      rw [b_shl (by omega) (bsh_lt (by omega))]
      cases g p f <;> simp
    rw [e, nI_or]
    congr 3
    apply congrArg nI
    apply bm_of
    · refine Nat.or_lt_two_pow (bm_lt _ 12) ?_
      split
      · exact Nat.pow_lt_pow_right (by decide) hf
      · decide
    · intro x hx
      rw [Nat.testBit_or, bm_t, decide_eq_true hx]
      by_cases ex : x = f
      · subst ex
        cases g p x <;> simp
      · have : (if g p f then 2 ^ f else 0).testBit x = false := by
          split
          · rw [Nat.testBit_two_pow]; simp; omega
          · exact Nat.zero_testBit x
        rw [this]
        have e2 : decide (x < f + 1) = decide (x < f) := by
          by_cases h : x < f
          · rw [decide_eq_true h, decide_eq_true (by omega)]
          · rw [decide_eq_false h, decide_eq_false (by omega)]
        rw [e2]; simp
  · simp only [f_X3_knownTo_L4]
    have : bm (fun x => decide (x < 12) && g p x) 12 = bm (g p) 12 := bm_x (fun x hx => by simp [hx])
    rw [if_pos (by decide), this]
theorem k_now {X i c : Nat} {s : Sv} {μ : Mm} (a w : Int32) (h : IC X i c s μ) (hR : IR X s μ) : ∃ r, f_X10_now X a w μ = some r ∧ f_X11_now (X + 90) a w μ = some r := by
  have h1 := h.1.1
  have hw := cb_w h.1
  have hp := cb_p h.1
  obtain ⟨ok, ht, hct, -, -, h15⟩ := h.2.1
  have hm := hR.2.1.1
  have hn := ok.1.1
  have hr := h.2.2.2.2.2.1.2.1
  have hokr := h.2.2.2.2.2.1.1 0
  have hr' := hR.2.2.2.2.2.1
  unfold f_X10_now f_X11_now
  simp only [kt_0 h1, kt_90 h1, if_true, hp, ob, e_isPerson' hw hct ok, r_isPerson h1 hm ok, bz_if, rp_0_6 h1, rf_13 h1, rf_90 h1, hr.1, hr'.1, nI_b0]
  rw [show (1 : Int32) = nI 1 from rfl, e_inK (by decide), ob, bz_if, two_ends2 (by decide)]
  by_cases g1 : inR a (s.1 0 0)
  · obtain ⟨p, hp1, rfl⟩ := inR_ex g1 (by omega)
    rw [if_pos g1, if_pos g1]
    by_cases g2 : inR w (1 + 1)
    · rw [if_pos g2, if_pos g2]
      cases e : (s.2.2.2.2.2.2 0).1 with
      | false => rw [if_pos rfl, if_pos rfl]; exact ⟨_, rfl, rfl⟩
      | true =>
        obtain ⟨q1, q2, q3, q4⟩ := hr.2 e
        obtain ⟨v1, v2, v3, v4⟩ := hr'.2 e
        obtain ⟨o1, -, -, -⟩ := hokr e
        have hone : (true = false) = False := by simp
        simp only [hone, if_false]
        by_cases ew : w = 0
        · rw [if_pos ew, if_pos ew, e_knownTo (mk_13 h1) (mp_13_0 h1) (mk_14 h1) q4 (by omega), ob, rp_90_68 h1, ob, ra_130 h1 (by omega), ob, v4 p (by omega)]
          exact ⟨_, rfl, rfl⟩
        · rw [if_neg ew, if_neg ew, q2, e_dreamOf (cr_lt _ _) (by omega), ob, dr_nb (by omega), rp_90_34 h1, ob, v1, r_row h1 hR.2.1 ok o1, ob, dr_R ok o1 p hp1, ob]
          exact ⟨_, rfl, rfl⟩
    · rw [if_neg g2, if_neg g2]; exact ⟨_, rfl, rfl⟩
  · rw [if_neg g1, if_neg g1]; exact ⟨_, rfl, rfl⟩
