/-! ===== act, right ===== -/
theorem shI' {X : Nat} {μ : Mm} (h : Shp X (mm_K μ) (mm_P μ)) (a k : Nat) (v : Int32) : Shp X (mm_K (ms_I μ a k v)) (mm_P (ms_I μ a k v)) := h
theorem shA' {X : Nat} {μ : Mm} (h : Shp X (mm_K μ) (mm_P μ)) (a : Nat) (f : Nat → Int32) : Shp X (mm_K (ms_A μ a f)) (mm_P (ms_A μ a f)) := h
theorem shL' {X : Nat} {μ : Mm} (h : Shp X (mm_K μ) (mm_P μ)) (a k : Nat) (v : Int64) : Shp X (mm_K (ms_L μ a k v)) (mm_P (ms_L μ a k v)) := h
theorem shB' {X : Nat} {μ : Mm} (h : Shp X (mm_K μ) (mm_P μ)) (a : Nat) (f : Nat → Int64) : Shp X (mm_K (ms_B μ a f)) (mm_P (ms_B μ a f)) := h
def addA (A : Nat → Nat → Nat) (w d p f k : Nat) : Nat → Nat → Nat := fun r j => if r = 8 then (if j = 0 then A 8 0 + 1 else if j = 2 then w else A 8 j) else if j = A 8 0 ∧ r < 5 then (if r = 0 then w else if r = 1 then d else if r = 2 then p else if r = 3 then f else k) else A r j
def addR (A : Nat → Nat → Nat) (w k v : Nat) : Nat → Nat → Nat := fun r j => if r = 8 then (if j = 1 then A 8 1 + 1 else if j = 2 then w else A 8 j) else if j = A 8 1 ∧ 5 ≤ r then (if r = 5 then w else if r = 6 then k else v) else A r j
theorem addA_ok {T : Tn} {A : Nat → Nat → Nat} {w d p f k : Nat} (h : OkA T A) (hr : A 8 0 < 16) (hw : A 8 2 ≤ w) (hw2 : w ≤ 999) (hd : d < 28) (hp : p < T 0 0) (hf : f < T 0 1) (hk : k ≤ 1) : OkA T (addA A w d p f k) := by
  obtain ⟨h1, h2, h3, h4, h5⟩ := h
  have e0 : addA A w d p f k 8 0 = A 8 0 + 1 := rfl
  have e1 : addA A w d p f k 8 1 = A 8 1 := rfl
  have e2 : addA A w d p f k 8 2 = w := rfl
  have o : ∀ r j, r < 5 → j ≠ A 8 0 → addA A w d p f k r j = A r j := fun r j hr hj => by unfold addA; rw [if_neg (by omega), if_neg (by omega)]
  have o5 : ∀ r j, 5 ≤ r → r < 8 → addA A w d p f k r j = A r j := fun r j hr hr2 => by unfold addA; rw [if_neg (by omega), if_neg (by omega)]
  have n0 : addA A w d p f k 0 (A 8 0) = w := by unfold addA; rw [if_neg (by decide), if_pos ⟨rfl, by decide⟩]; rfl
  have n1 : addA A w d p f k 1 (A 8 0) = d := by unfold addA; rw [if_neg (by decide), if_pos ⟨rfl, by decide⟩]; rfl
  have n2 : addA A w d p f k 2 (A 8 0) = p := by unfold addA; rw [if_neg (by decide), if_pos ⟨rfl, by decide⟩]; rfl
  have n3 : addA A w d p f k 3 (A 8 0) = f := by unfold addA; rw [if_neg (by decide), if_pos ⟨rfl, by decide⟩]; rfl
  have n4 : addA A w d p f k 4 (A 8 0) = k := by unfold addA; rw [if_neg (by decide), if_pos ⟨rfl, by decide⟩]; rfl
  refine ⟨⟨by omega, by omega, by omega⟩, fun i hi => ?_, fun i j hij hj => ?_, fun i hi => ?_, fun i j hij hj => ?_⟩
  · rw [e2]
    by_cases e : i = A 8 0
    · rw [e, n0, n1, n2, n3, n4]; exact ⟨Nat.le_refl _, hd, hp, hf, hk⟩
    · have := h2 i (by omega)
      rw [o 0 i (by decide) e, o 1 i (by decide) e, o 2 i (by decide) e, o 3 i (by decide) e, o 4 i (by decide) e]
      exact ⟨by omega, this.2⟩
  · by_cases e : j = A 8 0
    · rw [e, n0]
      by_cases e3 : i = A 8 0
      · rw [e3, n0]; exact Nat.le_refl _
      · rw [o 0 i (by decide) e3]
        have := (h2 i (by omega)).1
        omega
    · rw [o 0 i (by decide) (by omega), o 0 j (by decide) e]
      exact h3 i j hij (by omega)
  · rw [e1] at hi
    have := h4 i hi
    rw [o5 5 i (by decide) (by decide), o5 6 i (by decide) (by decide), o5 7 i (by decide) (by decide), e2, e0]
    exact ⟨by omega, by omega, this.2.2⟩
  · rw [e1] at hj
    rw [o5 5 i (by decide) (by decide), o5 5 j (by decide) (by decide)]
    exact h5 i j hij hj
theorem addR_ok {T : Tn} {A : Nat → Nat → Nat} {w k v : Nat} (h : OkA T A) (hr : A 8 1 < 20) (hw : A 8 2 ≤ w) (hw2 : w ≤ 999) (hk : k < A 8 0) (hv : v ≤ 1) : OkA T (addR A w k v) := by
  obtain ⟨h1, h2, h3, h4, h5⟩ := h
  have e0 : addR A w k v 8 0 = A 8 0 := rfl
  have e1 : addR A w k v 8 1 = A 8 1 + 1 := rfl
  have e2 : addR A w k v 8 2 = w := rfl
  have o : ∀ r j, 5 ≤ r → r < 8 → j ≠ A 8 1 → addR A w k v r j = A r j := fun r j hr hr2 hj => by unfold addR; rw [if_neg (by omega), if_neg (by omega)]
  have o5 : ∀ r j, r < 5 → addR A w k v r j = A r j := fun r j hr => by unfold addR; rw [if_neg (by omega), if_neg (by omega)]
  have n5 : addR A w k v 5 (A 8 1) = w := by unfold addR; rw [if_neg (by decide), if_pos ⟨rfl, by decide⟩]; rfl
  have n6 : addR A w k v 6 (A 8 1) = k := by unfold addR; rw [if_neg (by decide), if_pos ⟨rfl, by decide⟩]; rfl
  have n7 : addR A w k v 7 (A 8 1) = v := by unfold addR; rw [if_neg (by decide), if_pos ⟨rfl, by decide⟩]; rfl
  refine ⟨⟨by omega, by omega, by omega⟩, fun i hi => ?_, fun i j hij hj => ?_, fun i hi => ?_, fun i j hij hj => ?_⟩
  · rw [e0] at hi
    have := h2 i hi
    rw [o5 0 i (by decide), o5 1 i (by decide), o5 2 i (by decide), o5 3 i (by decide), o5 4 i (by decide), e2]
    exact ⟨by omega, this.2⟩
  · rw [e0] at hj
    rw [o5 0 i (by decide), o5 0 j (by decide)]
    exact h3 i j hij hj
  · rw [e2, e0]
    by_cases e : i = A 8 1
    · rw [e, n5, n6, n7]; exact ⟨Nat.le_refl _, hk, hv⟩
    · have := h4 i (by omega)
      rw [o 5 i (by decide) (by decide) e, o 6 i (by decide) (by decide) e, o 7 i (by decide) (by decide) e]
      exact ⟨by omega, this.2⟩
  · by_cases e : j = A 8 1
    · rw [e, n5]
      by_cases e3 : i = A 8 1
      · rw [e3, n5]; exact Nat.le_refl _
      · rw [o 5 i (by decide) (by decide) e3]
        have := (h4 i (by omega)).1
        omega
    · rw [o 5 i (by decide) (by decide) (by omega), o 5 j (by decide) (by decide) e]
      exact h5 i j hij (by omega)
/-- the census forgets its answer -/
theorem cc_na {X : Nat} {T : Tn} {A A' : Nat → Nat → Nat} {μ μ' : Mm} (hP : mm_P μ' = mm_P μ) (ht : tl μ' = tl μ) (h9 : mm_I μ' (X + 66) 9 = mm_I μ (X + 66) 9) (h10 : mm_I μ' (X + 66) 10 = mm_I μ (X + 66) 10) (h11 : mm_I μ' (X + 66) 11 = 0) (hI : ∀ q, q = X + 82 ∨ q = X + 83 ∨ X + 135 ≤ q → mm_I μ' q = mm_I μ q) (hL : mm_L μ' = mm_L μ) (h : Cc X T A μ) : Cc X T A' μ' := by
  obtain ⟨Rw, Ft, nr, sz, fo, Ml, Ln, as, h1, h2, h3, h4, h5, h6, h7, h8⟩ := h
  refine ⟨Rw, Ft, nr, sz, fo, Ml, Ln, false, ?_, ?_, h3, ?_, ?_, ?_, ?_, ?_⟩
  · rw [hP, tl_K ht, tl_N ht]; exact h1
  · rw [hP, tl_K ht, tl_N ht]; exact h2
  · rw [h9, h10, h11]; exact ⟨h4.1, h4.2.1, rfl, h4.2.2.2⟩
  · rw [hI Rw (by omega)]; exact h5
  · rw [hL]; exact h6
  · intro q; cases q
  · rw [tl_N ht, tl_Z ht]; exact h8
theorem IC_ac {X i c : Nat} {A' : Nat → Nat → Nat} {s : Sv} {μ μ' : Mm} (hP : mm_P μ' = mm_P μ) (ht : tl μ' = tl μ) (hI : ∀ q, ¬ (X + 4 ≤ q ∧ q < X + 13) → q ≠ X + 66 → mm_I μ' q = mm_I μ q) (h9 : mm_I μ' (X + 66) 9 = mm_I μ (X + 66) 9) (h10 : mm_I μ' (X + 66) 10 = mm_I μ (X + 66) 10) (h11 : mm_I μ' (X + 66) 11 = 0) (hL : mm_L μ' = mm_L μ) (ho : OkA s.1 A') (ha : Ca X A' μ') (h : IC X i c s μ) : IC X i c (s.1, s.2.1, s.2.2.1, s.2.2.2.1, s.2.2.2.2.1, A', s.2.2.2.2.2.2) μ' := by
  obtain ⟨h1, h2, h3, h4, h5, ⟨h6a, h6⟩, h7⟩ := h
  have hc := h1.2.1
  obtain ⟨g1, g2, g3, g4, g5, g6⟩ := h2
  exact ⟨cb_x hP ht h1, ⟨g1, g2, ctn_x (fun q _ _ => hI q (by omega) (by omega)) g3, tuP_x (fun q _ _ => hI q (by omega) (by omega)) g4, spT_x hP (fun q _ => hI q (by omega) (by omega)) g5, by rw [hI X (by omega) (by omega)]; exact g6⟩, cp_x (hI _ (by omega) (by omega)) (hI _ (by omega) (by omega)) h3, cf_x (hI _ (by omega) (by omega)) h4, ⟨ho, ha⟩, ⟨h6a, cr_x (fun q _ => hI q (by omega) (by omega)) h6⟩, cc_na hP ht h9 h10 h11 (fun q _ => hI q (by omega) (by omega)) hL h7⟩
theorem IR_ac {X : Nat} {A' : Nat → Nat → Nat} {s : Sv} {μ μ' : Mm} (hs : Sh X μ') (hf : ∀ k, k ≠ 46 → k ≠ 47 → k ≠ 48 → mm_I μ' (X + 90) k = mm_I μ (X + 90) k) (hI : ∀ q, inM X q → q ≠ X + 90 → ¬ (X + 116 ≤ q ∧ q < X + 124) → mm_I μ' q = mm_I μ q) (hL : ∀ q, inM X q → mm_L μ' q = mm_L μ q) (ha : Ra X A' μ') (h : IR X s μ) : IR X (s.1, s.2.1, s.2.2.1, s.2.2.2.1, s.2.2.2.2.1, A', s.2.2.2.2.2.2) μ' := by
  obtain ⟨-, h1, h2, h3, h4, h5⟩ := h
  have hi : ∀ q, X + 91 ≤ q → q ≤ X + 134 → ¬ (X + 116 ≤ q ∧ q < X + 124) → mm_I μ' q = mm_I μ q := fun q g1 g2 g3 => hI q ⟨by omega, g2⟩ (by omega) g3
  exact ⟨hs, rt_x (fun k hk => hf k (by omega) (by omega) (by omega)) (fun q g1 g2 => hi q (by omega) (by omega) (by omega)) (hL _ ⟨by omega, by omega⟩) h1, rp_x (hf 1 (by omega) (by omega) (by omega)) (hi _ (by omega) (by omega) (by omega)) h2, rf_x (hf 8 (by omega) (by omega) (by omega)) (hf 9 (by omega) (by omega) (by omega)) h3, ha, rr_x (fun k hk => hf k (by omega) (by omega) (by omega)) (by rw [hL (X + 90) ⟨by omega, by omega⟩]) (fun q g1 g2 => hi q (by omega) (by omega) (by omega)) (hL _ ⟨by omega, by omega⟩) h5⟩
theorem mayTell {X la : Nat} {l1 l2 : Int32} {μ : Mm} (h : Sh X μ) (hla : mm_I μ (X + 4) 10 = nI la) (hl : la ≤ 999) : f_X0_mayBeTold (X + 4) l1 l2 μ = some (bz ((nI la ≤ l1 ∧ l1 ≤ nI 999) ∧ inR l2 2)) := by
  unfold f_X0_mayBeTold f_X0_mayBeTold_J28 f_X0_mayBeTold_J24
  rw [if_pos (by rw [mk_4 h]), rf_4 h, ob, hla, c_isStep, ob, bz_if]
  have e2 : (l2 = 0 ∨ l2 = 1) ↔ inR l2 2 := by
    constructor
    · rintro (rfl | rfl) <;> decide
    · intro q
      obtain ⟨k, hk, rfl⟩ := inR_ex q (by decide)
      have : k = 0 ∨ k = 1 := by omega
      rcases this with rfl | rfl
      · exact Or.inl rfl
      · exact Or.inr rfl
  by_cases e1 : nI la ≤ l1 ∧ l1 ≤ nI 999
  · have g1 := e1.1
    have g2 := e1.2
    rw [le_nI (by omega)] at g1
    rw [nI_le' (by decide)] at g2
    rw [if_neg (by rw [nI_lt' (by omega)]; omega), if_pos (by unfold inR; omega)]
    by_cases e3 : inR l2 2
    · rw [bz_t ⟨e1, e3⟩]
      rcases e2.mpr e3 with q | q
      · rw [if_pos q]
      · rw [if_neg (by rw [q]; decide), if_pos q]
    · rw [bz_f (fun q => e3 q.2), if_neg (fun q => e3 (e2.mp (Or.inl q))), if_neg (fun q => e3 (e2.mp (Or.inr q)))]
  · rw [bz_f (fun q => e1 q.1)]
    rw [le_nI (by omega), nI_le' (by decide)] at e1
    by_cases e3 : l1 < nI la
    · rw [if_pos e3]
    · rw [if_neg e3]
      rw [nI_lt' (by omega)] at e3
      rw [if_neg (by unfold inR; omega)]
theorem step_ex {la : Nat} {l1 : Int32} (hl : la ≤ 999) (h : nI la ≤ l1 ∧ l1 ≤ nI 999) : ∃ w, la ≤ w ∧ w ≤ 999 ∧ l1 = nI w := by
  rw [le_nI (by omega), nI_le' (by decide)] at h
  obtain ⟨w, hw, e⟩ := inR_ex (p := l1) (n := 1000) (by unfold inR; omega) (by decide)
  rw [e, nI_toInt (by omega)] at h
  exact ⟨w, by omega, by omega, e⟩
section CALLS
variable {b L : Nat} {xs : Nat → Int32} {X i c : Nat} {s : Sv} {μ : Mm}
def m_ac (X n w d p f k : Nat) (μ : Mm) : Mm := ms_I (ms_I (ms_I (ms_I (ms_I (ms_I (ms_I (ms_I μ (X + 66) 11 0) (X + 4) 10 (nI w)) (X + 5) n (nI w)) (X + 6) n (nI d)) (X + 7) n (nI p)) (X + 8) n (nI f)) (X + 9) n (nI k)) (X + 4) 8 (nI (n + 1))
def m_acR (X n w d p f k : Nat) (μ : Mm) : Mm := ms_I (ms_I (ms_I (ms_I (ms_I (ms_I (ms_I μ (X + 90) 48 (nI w)) (X + 116) n (nI w)) (X + 117) n (nI d)) (X + 118) n (nI p)) (X + 119) n (nI f)) (X + 120) n (nI k)) (X + 90) 46 (nI (n + 1))
theorem k_act (a1 a2 a3 a4 a5 : Int32) (h0 : mm_K μ b = (19, L) ∧ mm_I μ b = xs ∧ b < X) (h : IC X i c s μ) (hR : IR X s μ) : ∃ r μ1 μ2, f_X10_act X a1 a2 a3 a4 a5 μ = some (r, μ1) ∧ f_X11_act (X + 90) a1 a2 a3 a4 a5 μ1 = some (r, μ2) ∧ Inv b L xs X (i + 1) μ2 ∧ (mm_K μ1 b = (19, L) ∧ mm_I μ1 b = xs) := by
  have h1 := h.1.1
  obtain ⟨ok, ht, hct, -, -, -⟩ := h.2.1
  have hn := ok.1.1
  have hn1 := ok.1.2.1
  obtain ⟨oA, hA⟩ := h.2.2.2.2.1
  have hb := oA.1
  have e10 : f_X10_act X a1 a2 a3 a4 a5 μ = if ((nI (s.2.2.2.2.2.1 8 2) ≤ a1 ∧ a1 ≤ nI 999) ∧ inR a5 2) ∧ inR a2 28 ∧ inR a3 (s.1 0 0) ∧ inR a4 (s.1 0 1) then (if s.2.2.2.2.2.1 8 0 = 16 then some (-3, μ) else (f_X0_addAct (X + 4) a1 a2 a3 a4 a5 (ms_I μ (X + 66) 11 0)).bind fun x => some (x.1, x.2)) else some (-2, μ) := by
    unfold f_X10_act f_X0_hasRoomForAct
    simp only [kt_0 h1, kt_4 h1, if_true, rp_0_4 h1, rp_0_5 h1, ob, mayTell h1 hA.1.2.2 hb.2.2, bz_if, c_isDay, cb_p h.1, e_isPerson' (cb_w h.1) hct ok, e_isFact' (cb_w h.1) hct ok, rf_4 h1, hA.1.1, wz0_66 h1, rp_0_4 (μ := ms_I μ (X + 66) 11 0) h1]
    by_cases cc : ((nI (s.2.2.2.2.2.1 8 2) ≤ a1 ∧ a1 ≤ nI 999) ∧ inR a5 2) ∧ inR a2 28 ∧ inR a3 (s.1 0 0) ∧ inR a4 (s.1 0 1)
    · rw [if_pos cc.1, if_pos cc.2.1, if_pos cc.2.2.1, if_pos cc.2.2.2, if_pos cc]
      by_cases c5 : s.2.2.2.2.2.1 8 0 = 16
      · have hle : (16 : Int32) ≤ nI (s.2.2.2.2.2.1 8 0) := by rw [c5]; decide
        rw [if_pos hle, ob, if_pos rfl, if_pos c5]
      · have hle : ¬ (16 : Int32) ≤ nI (s.2.2.2.2.2.1 8 0) := by rw [show (16 : Int32) = nI 16 from rfl, nI_le_i (by omega) (by omega)]; omega
        rw [if_neg hle, ob, if_neg (show ¬ (1 : Int32) = 0 by decide), if_neg c5]
    · rw [if_neg cc]
      by_cases c1 : (nI (s.2.2.2.2.2.1 8 2) ≤ a1 ∧ a1 ≤ nI 999) ∧ inR a5 2
      · rw [if_pos c1]
        by_cases c2 : inR a2 28
        · rw [if_pos c2]
          by_cases c3 : inR a3 (s.1 0 0)
          · rw [if_pos c3, if_neg (fun c4 => cc ⟨c1, c2, c3, c4⟩)]
          · rw [if_neg c3]
        · rw [if_neg c2]
      · rw [if_neg c1]
  have e11 : ∀ ν, IR X s ν → f_X11_act (X + 90) a1 a2 a3 a4 a5 ν = if ((nI (s.2.2.2.2.2.1 8 2) ≤ a1 ∧ a1 ≤ nI 999) ∧ inR a5 2) ∧ inR a2 28 ∧ inR a3 (s.1 0 0) ∧ inR a4 (s.1 0 1) then (if s.2.2.2.2.2.1 8 0 = 16 then some (-3, ν) else f_X11_act (X + 90) a1 a2 a3 a4 a5 ν) else some (-2, ν) := by
    intro ν hν
    by_cases cc : ((nI (s.2.2.2.2.2.1 8 2) ≤ a1 ∧ a1 ≤ nI 999) ∧ inR a5 2) ∧ inR a2 28 ∧ inR a3 (s.1 0 0) ∧ inR a4 (s.1 0 1)
    · rw [if_pos cc]
      by_cases c5 : s.2.2.2.2.2.1 8 0 = 16
      · rw [if_pos c5]
        unfold f_X11_act
        rw [if_pos (by rw [mk_90 hν.1]), rf_90 hν.1, ob, hν.2.2.2.2.1.1.2.2, show (999 : Int32) = nI 999 from rfl, e_in, ob, bz_if, if_pos cc.1.1, r_isDay, ob, bz_if, if_pos cc.2.1, r_isPerson hν.1 hν.2.1.1 ok, ob, bz_if, if_pos cc.2.2.1, r_isFact hν.1 hν.2.1.1 ok, ob, bz_if, if_pos cc.2.2.2, show (1 : Int32) = nI 1 from rfl, e_inK (by decide), ob, bz_if, if_pos cc.1.2, rf_90 hν.1, ob, hν.2.2.2.2.1.1.1, c5, if_pos (show nI 16 = 16 from rfl)]
      · rw [if_neg c5]
    · rw [if_neg cc]
      unfold f_X11_act
      rw [if_pos (by rw [mk_90 hν.1]), rf_90 hν.1, ob, hν.2.2.2.2.1.1.2.2, show (999 : Int32) = nI 999 from rfl, e_in, ob, bz_if]
      by_cases c1 : nI (s.2.2.2.2.2.1 8 2) ≤ a1 ∧ a1 ≤ nI 999
      · rw [if_pos c1, r_isDay, ob, bz_if]
        by_cases c2 : inR a2 28
        · rw [if_pos c2, r_isPerson hν.1 hν.2.1.1 ok, ob, bz_if]
          by_cases c3 : inR a3 (s.1 0 0)
          · rw [if_pos c3, r_isFact hν.1 hν.2.1.1 ok, ob, bz_if]
            by_cases c4 : inR a4 (s.1 0 1)
            · rw [if_pos c4, show (1 : Int32) = nI 1 from rfl, e_inK (by decide), ob, bz_if, if_neg (fun q => cc ⟨⟨c1, q⟩, c2, c3, c4⟩)]
            · rw [if_neg c4]
          · rw [if_neg c3]
        · rw [if_neg c2]
      · rw [if_neg c1]
  by_cases cc : ((nI (s.2.2.2.2.2.1 8 2) ≤ a1 ∧ a1 ≤ nI 999) ∧ inR a5 2) ∧ inR a2 28 ∧ inR a3 (s.1 0 0) ∧ inR a4 (s.1 0 1)
  · rw [if_pos cc] at e10
    by_cases c5 : s.2.2.2.2.2.1 8 0 = 16
    · rw [if_pos c5] at e10
      exact both h0 hR e10 (IC_up h) (ChC_r _ _) (fun hν => ⟨_, by rw [e11 _ hν, if_pos cc, if_pos c5], hν, ChM_r _ _⟩)
    · rw [if_neg c5] at e10
      obtain ⟨w, hw1, hw2, rfl⟩ := step_ex hb.2.2 cc.1.1
      obtain ⟨d, hd, rfl⟩ := inR_ex cc.2.1 (by decide)
      obtain ⟨p, hp, rfl⟩ := inR_ex cc.2.2.1 (by omega)
      obtain ⟨f, hf, rfl⟩ := inR_ex cc.2.2.2 (by omega)
      obtain ⟨k, hk, rfl⟩ := inR_ex cc.1.2 (by decide)
      have hna : s.2.2.2.2.2.1 8 0 < 16 := by omega
      have hx : f_X10_act X (nI w) (nI d) (nI p) (nI f) (nI k) μ = some (nI (s.2.2.2.2.2.1 8 0), m_ac X (s.2.2.2.2.2.1 8 0) w d p f k μ) := by
        rw [e10]
        have hA0 := hA.1.1
        generalize s.2.2.2.2.2.1 8 0 = n at hA0 hna
        unfold f_X0_addAct f_X0_hasRoomForAct m_ac
        have hle : ¬ (16 : Int32) ≤ nI n := by rw [show (16 : Int32) = nI 16 from rfl, nI_le_i (by omega) (by omega)]; omega
        have hone : ((1 : Int32) = 0) = False := by decide
        simp (maxDischargeDepth := 30) only [kt_4, rf_4, rp_4_0, rp_4_1, rp_4_2, rp_4_3, rp_4_4, wf_4, wa_5, wa_6, wa_7, wa_8, wa_9, shI', h1, ob, if_true, rI, Nat.add_left_cancel_iff, hA0, hna, hle, if_false, hone, false_and, and_false, Nat.reduceEqDiff, and_true, nI_1, true_and]
        rw [show (1 : Int32) = nI 1 from rfl, pk_sub (by omega)]
        rfl
      refine both h0 hR hx (IC_up (IC_ac (A' := addA s.2.2.2.2.2.1 w d p f k) (by rfl) (by rfl) ?_ ?_ ?_ ?_ (by rfl) (addA_ok oA hna hw1 hw2 hd hp hf (by omega)) ?_ h)) ?_ (fun hν => ⟨m_acR X (s.2.2.2.2.2.1 8 0) w d p f k (m_ac X (s.2.2.2.2.2.1 8 0) w d p f k μ), ?_, ?_, ?_⟩)
      · intro q g1 g2
        funext j
        unfold m_ac
        simp only [rI]
        repeat rw [if_neg (by omega)]
      · unfold m_ac; simp [rI]
      · unfold m_ac; simp [rI]
      · unfold m_ac; simp [rI]
      · obtain ⟨⟨x1, x2, x3⟩, x4, x5⟩ := hA
        unfold Ca addA m_ac
        refine ⟨⟨by simp [rI], by simp [rI, x2], by simp [rI]⟩, fun j hj => ?_, fun j hj => ?_⟩
        · replace hj : j < s.2.2.2.2.2.1 8 0 + 1 := hj
          by_cases ej : j = s.2.2.2.2.2.1 8 0
          · subst ej; simp [rI]
          · have := x4 j (by omega)
            simp [rI, ej, this]
        · replace hj : j < s.2.2.2.2.2.1 8 1 := hj
          have := x5 j hj
          simp [rI, this]
      · refine ⟨fun q hq => ?_, fun _ _ => rfl, fun q hq => ⟨?_, rfl⟩⟩
        · funext j
          unfold inM at hq
          unfold m_ac
          simp only [rI]
          repeat rw [if_neg (by omega)]
        · funext j
          unfold m_ac
          simp only [rI]
          repeat rw [if_neg (by omega)]
      · have hA0 := hν.2.2.2.2.1.1.1
        have h9 := hν.1
        have h48 := hν.2.2.2.2.1.1.2.2
        have hp1 := r_isPerson (p := nI p) h9 hν.2.1.1 ok
        have hf1 := r_isFact (p := nI f) h9 hν.2.1.1 ok
        generalize m_ac X (s.2.2.2.2.2.1 8 0) w d p f k μ = ν at hA0 h9 h48 hp1 hf1
        unfold f_X11_act
        rw [if_pos (by rw [mk_90 h9]), rf_90 h9, ob, h48, show (999 : Int32) = nI 999 from rfl, e_in, ob, bz_if, if_pos cc.1.1, r_isDay, ob, bz_if, if_pos cc.2.1, hp1, ob, bz_if, if_pos cc.2.2.1, hf1, ob, bz_if, if_pos cc.2.2.2, show (1 : Int32) = nI 1 from rfl, e_inK (by decide), ob, bz_if, if_pos cc.1.2, rf_90 h9, ob, hA0]
        generalize s.2.2.2.2.2.1 8 0 = n at hA0 hna c5
        have hne : ¬ nI n = (16 : Int32) := by rw [show (16 : Int32) = nI 16 from rfl, nI_eq_i (by omega) (by omega)]; exact c5
        unfold m_acR
        simp (maxDischargeDepth := 30) only [rf_90, rp_90_49, rp_90_50, rp_90_51, rp_90_52, rp_90_53, wf_90, wa_116, wa_117, wa_118, wa_119, wa_120, shI', h9, ob, rI, Nat.add_left_cancel_iff, hA0, hna, hne, if_false, false_and, and_false, Nat.reduceEqDiff, and_true, nI_1, true_and, if_true, nI_add]
        rw [pk_sub (by omega)]
        rfl
      · refine IR_ac (A' := addA s.2.2.2.2.2.1 w d p f k) hν.1 (fun j j1 j2 j3 => ?_) (fun q q1 q2 q3 => ?_) (fun _ _ => by rfl) ?_ hν
        · unfold m_acR
          simp [rI, j1, j3]
        · funext j
          unfold inM at q1
          unfold m_acR
          simp only [rI]
          repeat rw [if_neg (by omega)]
        · obtain ⟨⟨x1, x2, x3⟩, x4, x5⟩ := hν.2.2.2.2.1
          generalize m_ac X (s.2.2.2.2.2.1 8 0) w d p f k μ = ν at x1 x2 x3 x4 x5
          unfold Ra addA m_acR
          refine ⟨⟨by simp [rI], by simp [rI, x2], by simp [rI]⟩, fun j hj => ?_, fun j hj => ?_⟩
          · replace hj : j < s.2.2.2.2.2.1 8 0 + 1 := hj
            by_cases ej : j = s.2.2.2.2.2.1 8 0
            · subst ej; simp [rI]
            · have := x4 j (by omega)
              simp [rI, ej, this]
          · replace hj : j < s.2.2.2.2.2.1 8 1 := hj
            have := x5 j hj
            simp [rI, this]
      · refine ⟨fun q hq => ?_, fun _ _ => rfl, rfl, rfl⟩
        funext j
        unfold inM at hq
        unfold m_acR
        simp only [rI]
        repeat rw [if_neg (by omega)]
  · rw [if_neg cc] at e10
    exact both h0 hR e10 (IC_up h) (ChC_r _ _) (fun hν => ⟨_, by rw [e11 _ hν, if_neg cc], hν, ChM_r _ _⟩)
end CALLS
