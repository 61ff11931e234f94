/-! ===== Spread: facts and towns are set ===== -/
theorem ctn_x {c : Nat} {T : Tn} {μ μ' : Mm} (hx : ∀ q, c ≤ q → q < c + 14 → mm_I μ' q = mm_I μ q) (h : CTn c T μ) : CTn c T μ' := by
  unfold CTn at h ⊢
  rw [hx c (by omega) (by omega), hx (c + 2) (by omega) (by omega), hx (c + 3) (by omega) (by omega), hx (c + 4) (by omega) (by omega), hx (c + 5) (by omega) (by omega), hx (c + 6) (by omega) (by omega), hx (c + 7) (by omega) (by omega), hx (c + 8) (by omega) (by omega), hx (c + 9) (by omega) (by omega), hx (c + 10) (by omega) (by omega), hx (c + 11) (by omega) (by omega), hx (c + 12) (by omega) (by omega), hx (c + 13) (by omega) (by omega)]
  exact h
theorem mtn_x {M o : Nat} {T : Tn} {μ μ' : Mm} (hx : ∀ q, M + 2 ≤ q → q < M + 20 → mm_I μ' q = mm_I μ q) (h : MTn M o T μ) : MTn M o T μ' := by
  unfold MTn at h ⊢
  rw [hx (M + 2) (by omega) (by omega), hx (M + 4) (by omega) (by omega), hx (M + 5) (by omega) (by omega), hx (M + 6) (by omega) (by omega), hx (M + 7) (by omega) (by omega), hx (M + 8) (by omega) (by omega), hx (M + 9) (by omega) (by omega), hx (M + 10) (by omega) (by omega), hx (M + 11) (by omega) (by omega), hx (M + 12) (by omega) (by omega), hx (M + 13) (by omega) (by omega), hx (M + 14) (by omega) (by omega), hx (M + 15) (by omega) (by omega), hx (M + 16) (by omega) (by omega), hx (M + 17) (by omega) (by omega), hx (M + 18) (by omega) (by omega), hx (M + 19) (by omega) (by omega)]
  exact h
theorem spT_x {X c : Nat} {T : Tn} {μ μ' : Mm} (hP : mm_P μ' = mm_P μ) (hx : ∀ q, (X + 59 ≤ q ∧ q < X + 62) ∨ (X + 64 ≤ q ∧ q < X + 66) → mm_I μ' q = mm_I μ q) (h : SpT X c T μ) : SpT X c T μ' := by
  unfold SpT at h ⊢
  rw [hP, hx (X + 59) (by omega), hx (X + 60) (by omega), hx (X + 61) (by omega), hx (X + 64) (by omega), hx (X + 65) (by omega)]
  exact h
theorem spD_x {X : Nat} {d : Nat → Nat} {μ μ' : Mm} (h1 : mm_I μ' (X + 62) = mm_I μ (X + 62)) (h2 : mm_I μ' (X + 63) = mm_I μ (X + 63)) (h : SpD X d μ) : SpD X d μ' := by
  unfold SpD at h ⊢
  rw [h1, h2]
  exact h
theorem spF_x {X f : Nat} {T : Tn} {w us : Nat → Bool} {μ μ' : Mm} (hx : ∀ k, 8 ≤ k → k < 14 → mm_I μ' (X + 58) k = mm_I μ (X + 58) k) (h : SpF X T f w us μ) : SpF X T f w us μ' := by
  unfold SpF at h ⊢
  rw [hx 8 (by omega) (by omega), hx 9 (by omega) (by omega), hx 10 (by omega) (by omega), hx 11 (by omega) (by omega), hx 12 (by omega) (by omega), hx 13 (by omega) (by omega)]
  exact h
theorem e_isFact' {c : Nat} {T : Tn} {p : Int32} {μ : Mm} (hc : TwS c (mm_K μ) (mm_P μ)) (ht : CTn c T μ) (ok : OkT T) : f_X7_isFact c p μ = some (bz (inR p (T 0 1))) := e_isFact hc.1 hc.2.2.2.1.1 hc.2.2.2.1.2.1 ht.2.1.1 (by have := ok.1.2.1; omega)
theorem e_isPerson' {c : Nat} {T : Tn} {p : Int32} {μ : Mm} (hc : TwS c (mm_K μ) (mm_P μ)) (ht : CTn c T μ) (ok : OkT T) : f_X7_isPerson c p μ = some (bz (inR p (T 0 0))) := e_isPerson hc.1 ht.1.1 (by have := ok.1.1; omega)
theorem bz_t {p : Prop} [Decidable p] (h : p) : bz p = 1 := if_pos h
theorem bz_f {p : Prop} [Decidable p] (h : ¬ p) : bz p = 0 := if_neg h
theorem wv_0 : ∀ v, v < 8 → (nI v &&& (1 : Int32) = 0 ↔ v.testBit 0 = false) := by decide +kernel
theorem wv_1 : ∀ v, v < 8 → (nI v &&& (2 : Int32) = 0 ↔ v.testBit 1 = false) := by decide +kernel
theorem wv_2 : ∀ v, v < 8 → (nI v &&& (4 : Int32) = 0 ↔ v.testBit 2 = false) := by decide +kernel
def m_sf (X : Nat) (T : Tn) (f : Nat) (w us : Nat → Bool) (μ : Mm) : Mm := ms_I (ms_I (ms_I (ms_I (ms_I (ms_I μ (X + 58) 8 (nI (T 3 f))) (X + 58) 9 (nI (2 ^ T 2 f))) (X + 58) 10 (nI (bm us 8))) (X + 58) 11 (nI (w 0 && !(T 0 8).testBit f).toNat)) (X + 58) 12 (nI (w 1 && !(T 0 4).testBit f).toNat)) (X + 58) 13 (nI (w 2 && !(T 0 8).testBit f).toNat)
theorem m_sf_F (X : Nat) (T : Tn) (f : Nat) (w us : Nat → Bool) (μ : Mm) : SpF X T f w us (m_sf X T f w us μ) := by
  unfold SpF m_sf
  simp [rI]
theorem m_sf_o (X : Nat) (T : Tn) (f : Nat) (w us : Nat → Bool) (μ : Mm) {q : Nat} (hq : q ≠ X + 58) : mm_I (m_sf X T f w us μ) q = mm_I μ q := by
  funext j
  unfold m_sf
  simp [rI, hq]
theorem e_setFact {X c f v : Nat} {T : Tn} {us : Nat → Bool} {μ : Mm} (h : Sh X μ) (hc : TwS c (mm_K μ) (mm_P μ)) (hcX : c + 18 ≤ X + 57) (ht : CTn c T μ) (ok : OkT T) (hT : SpT X c T μ) (hf : f < T 0 1) (hv : v < 8) : f_X4_setFact (X + 58) (nI f) (nI v) (nI (bm us 8)) μ = some (m_sf X T f v.testBit us μ) := by
  have hP := hT.1
  have hff := ok.2.2.2.2.1 f hf
  have hF12 := ok.1.2.1
  have hn0 := ok.1.1
  have hlaw := ok.1.2.2.2.2.1
  have hdeep := ok.1.2.2.2.2.2.2.2.2.2.1
  have hfb : f < 32 := by omega
  have hA : ∀ (ν : Mm), mm_P ν = mm_P μ → mm_K ν = mm_K μ → (mm_K ν (X + 58)).1 = 5 := fun ν _ h2 => by rw [h2, mk_58 h]
  unfold f_X4_setFact f_X4_setFact_J19 f_X4_setFact_J40
  rw [if_pos (by rw [mk_58 h]), e_gfP (by rw [mk_58 h]) hP, ob, ct_dp hc ht, ob]
  have g5 : gf_P 5 7 (X + 58) μ = some c := e_gfP (by rw [mk_58 h]) hP
  simp only [g5, ob, ct_lw hc ht, e_isFact' hc ht ok, bz_t (inR_nI hf (by omega)), tc_p3 hc, ct_4_1 hc ht ok hf]
  simp only [b_bit hfb (by omega : T 0 8 < 2 ^ 31), b_bit hfb (by omega : T 0 4 < 2 ^ 31), nI_b0]
  have hone : ((1 : Int32) = 0) = False := by decide
  simp only [hone, if_false]
  have key : ∀ (l4 l5 : Int32), (l4 = nI ((T 0 8).testBit f).toNat) → (l5 = nI (!(T 0 4).testBit f).toNat) → f_X4_setFact_J75 (X + 58) (nI f) (nI v) (nI (bm us 8)) l4 l5 1 (X + 58) (nI (T 3 f)) μ = some (m_sf X T f v.testBit us μ) := by
    intro l4 l5 h4 h5
    unfold f_X4_setFact_J75 f_X4_setFact_J102
    have hcm : TwS c (mm_K (ms_I μ (X + 58) 8 (nI (T 3 f)))) (mm_P (ms_I μ (X + 58) 8 (nI (T 3 f)))) := hc
    have htm : CTn c T (ms_I μ (X + 58) 8 (nI (T 3 f))) := ctn_x (fun q h1 h2 => by rw [iI, if_neg (by omega)]) ht
    have hPm : gf_P 5 7 (X + 58) (ms_I μ (X + 58) 8 (nI (T 3 f))) = some c := e_gfP (by rw [kI, mk_58 h]) hP
    rw [wf_58 h, ob, if_neg (by decide), hPm, ob, tc_p3 hcm, ob, ct_4_0 hcm htm ok hf, ob, b_one (by omega), wf_58 (μ := ms_I μ (X + 58) 8 (nI (T 3 f))) h, ob, wf_58 (μ := ms_I (ms_I μ (X + 58) 8 (nI (T 3 f))) (X + 58) 9 (nI (2 ^ T 2 f))) h, ob]
    unfold m_sf
    have hν : Sh X (ms_I (ms_I (ms_I μ (X + 58) 8 (nI (T 3 f))) (X + 58) 9 (nI (2 ^ T 2 f))) (X + 58) 10 (nI (bm us 8))) := h
    generalize ms_I (ms_I (ms_I μ (X + 58) 8 (nI (T 3 f))) (X + 58) 9 (nI (2 ^ T 2 f))) (X + 58) 10 (nI (bm us 8)) = ν at hν ⊢
    subst h4; subst h5
    simp only [f_X4_setFact_J126, f_X4_setFact_J127, f_X4_setFact_J146, f_X4_setFact_J147, f_X4_setFact_J166, f_X4_setFact_J167, propext (wv_0 v hv), propext (wv_1 v hv), propext (wv_2 v hv), nI_b0]
    generalize v.testBit 0 = b0
    generalize v.testBit 1 = b1
    generalize v.testBit 2 = b2
    generalize (T 0 8).testBit f = b3
    generalize (T 0 4).testBit f = b4
    have hν : Shp X (mm_K ν) (mm_P ν) := hν
    have n0 : nI 0 = 0 := rfl
    have n1 : nI 1 = 1 := rfl
    have z0 : ∀ a k, pf_Z 5 k (X + 58) 0 (ms_I ν (X + 58) 11 a) = some (ms_I (ms_I ν (X + 58) 11 a) (X + 58) k 0) := fun a k => wz0_58 (μ := ms_I ν (X + 58) 11 a) hν k
    have z1 : ∀ a k, pf_Z 5 k (X + 58) 1 (ms_I ν (X + 58) 11 a) = some (ms_I (ms_I ν (X + 58) 11 a) (X + 58) k 1) := fun a k => wz1_58 (μ := ms_I ν (X + 58) 11 a) hν k
    have y0 : ∀ a b k, pf_Z 5 k (X + 58) 0 (ms_I (ms_I ν (X + 58) 11 a) (X + 58) 12 b) = some (ms_I (ms_I (ms_I ν (X + 58) 11 a) (X + 58) 12 b) (X + 58) k 0) := fun a b k => wz0_58 (μ := ms_I (ms_I ν (X + 58) 11 a) (X + 58) 12 b) hν k
    have y1 : ∀ a b k, pf_Z 5 k (X + 58) 1 (ms_I (ms_I ν (X + 58) 11 a) (X + 58) 12 b) = some (ms_I (ms_I (ms_I ν (X + 58) 11 a) (X + 58) 12 b) (X + 58) k 1) := fun a b k => wz1_58 (μ := ms_I (ms_I ν (X + 58) 11 a) (X + 58) 12 b) hν k
    cases b0 <;> cases b1 <;> cases b2 <;> cases b3 <;> cases b4 <;> simp [wz0_58 hν, wz1_58 hν, z0, z1, y0, y1, ob, n0, n1]
  by_cases e8 : (T 0 8).testBit f = false
  · rw [if_pos e8]
    by_cases e4 : (T 0 4).testBit f = false
    · rw [if_pos e4]; exact key _ _ (by rw [e8]; rfl) (by rw [e4]; rfl)
    · have e4 : (T 0 4).testBit f = true := by simpa using e4
      rw [if_neg (by rw [e4]; decide)]; exact key _ _ (by rw [e8]; rfl) (by rw [e4]; rfl)
  · have e8 : (T 0 8).testBit f = true := by simpa using e8
    rw [if_neg (by rw [e8]; decide)]
    by_cases e4 : (T 0 4).testBit f = false
    · rw [if_pos e4]; exact key _ _ (by rw [e8]; rfl) (by rw [e4]; rfl)
    · have e4 : (T 0 4).testBit f = true := by simpa using e4
      rw [if_neg (by rw [e4]; decide)]; exact key _ _ (by rw [e8]; rfl) (by rw [e4]; rfl)
/-! days -/
theorem e_dullOn {c day : Nat} {T : Tn} {μ : Mm} (hc : TwS c (mm_K μ) (mm_P μ)) (ht : CTn c T μ) (ok : OkT T) (hd : day < 2 ^ 31) : f_X7_dullOn c (nI day) μ = some (nI (bm (fun p => dl T p day) 8)) := by
  have hn0 := ok.1.1
  have hn := ok.1.2.2.2.2.2.2.2.1
  unfold f_X7_dullOn
  rw [if_pos (by rw [hc.1])]
  refine whl_b (T 0 6) (fun i => (nI (bm (fun p => anyb (fun k => T 9 k == p && decide (T 10 k ≤ day) && decide (day ≤ T 11 k)) i) 8), nI i)) (b := nI (bm (fun p => dl T p day) 8)) ?_ (fun i hi => ?_) ?_
  · show _ = (nI (bm (fun _ => false) 8), _)
    rw [← bm_0]; rfl
  · have hw := ok.2.2.2.2.2.2.2.1 i hi
    simp only [f_X7_dullOn_L4, f_X7_dullOn_J55, tc_p6 hc, ob, ct_s10 hc ht, ct_10_0 hc ht ok hi, ct_10_1 hc ht ok hi, ct_10_2 hc ht ok hi, b_one (by omega : T 9 i < 32), nI_or, bm_set _ (by omega : T 9 i < 8), nI_1]
    rw [if_neg (by rw [nI_le_i (by omega) (by omega)]; omega)]
    by_cases e1 : day < T 10 i
    · rw [if_pos (nI_lt e1 (by omega))]
      refine st2 rfl (fun p hp => ?_)
      show _ = (_ || _)
      grind
    · rw [if_neg (nI_nlt (by omega) (by omega))]
      by_cases e2 : T 11 i < day
      · rw [if_pos (nI_lt e2 (by omega))]
        refine st2 rfl (fun p hp => ?_)
        show _ = (_ || _)
        grind
      · rw [if_neg (nI_nlt (by omega) (by omega))]
        refine st2 rfl (fun p hp => ?_)
        show _ = (_ || _)
        grind
  · simp only [f_X7_dullOn_L4, tc_p6 hc, ob, ct_s10 hc ht]
    rw [if_pos (nI_le (Nat.le_refl _) (by omega))]
    rfl
theorem e_napsOf {X c day : Nat} {T : Tn} {μ : Mm} (h : Sh X μ) (hP : mm_P μ (X + 58) 7 = some c) (hc : TwS c (mm_K μ) (mm_P μ)) (ht : CTn c T μ) (ok : OkT T) (hd : day < 28) : f_X4_napsOf (X + 58) (nI day) μ = some (nI (bm (fun k => decide (k < T 0 3) && T 8 k == day) 8)) := by
  have hn := ok.1.2.2.2.1
  have g5 : gf_P 5 7 (X + 58) μ = some c := e_gfP (by rw [mk_58 h]) hP
  unfold f_X4_napsOf
  rw [if_pos (by rw [mk_58 h])]
  refine whl_b (T 0 3) (fun i => (nI (bm (fun k => decide (k < i) && T 8 k == day) 8), nI i)) (b := nI (bm (fun k => decide (k < T 0 3) && T 8 k == day) 8)) ?_ (fun i hi => ?_) ?_
  · have : (fun k => decide (k < 0) && T 8 k == day) = fun _ => false := by funext k; simp
    rw [this, ← bm_0]; rfl
  · have hw := ok.2.2.2.2.2.2.1 i hi
    simp only [f_X4_napsOf_L4, f_X4_napsOf_J40, g5, tc_p5 hc, ob, ct_s8 hc ht, ct_8_1 hc ht ok hi, b_one (by omega : i < 32), nI_or, bm_set _ (by omega : i < 8), nI_1]
    rw [if_neg (by rw [nI_le_i (by omega) (by omega)]; omega)]
    by_cases e1 : T 8 i = day
    · rw [if_pos (by rw [e1])]
      refine st2 rfl (fun p hp => ?_)
      grind
    · rw [if_neg (by rw [nI_eq_i (by omega) (by omega)]; exact e1)]
      refine st2 rfl (fun p hp => ?_)
      grind
  · simp only [f_X4_napsOf_L4, g5, tc_p5 hc, ob, ct_s8 hc ht]
    rw [if_pos (nI_le (Nat.le_refl _) (by omega))]
theorem e_talksOf {X c day : Nat} {T : Tn} {μ : Mm} (h : Sh X μ) (hP : mm_P μ (X + 58) 7 = some c) (hc : TwS c (mm_K μ) (mm_P μ)) (ht : CTn c T μ) (ok : OkT T) (hd : day < 28) : f_X4_talksOf (X + 58) (nI day) μ = some (nI (bm (fun k => decide (k < T 0 2) && day % T 6 k == 0) 8)) := by
  have hn := ok.1.2.2.1
  have g5 : gf_P 5 7 (X + 58) μ = some c := e_gfP (by rw [mk_58 h]) hP
  unfold f_X4_talksOf
  rw [if_pos (by rw [mk_58 h])]
  refine whl_b (T 0 2) (fun i => (nI (bm (fun k => decide (k < i) && day % T 6 k == 0) 8), nI i)) (b := nI (bm (fun k => decide (k < T 0 2) && day % T 6 k == 0) 8)) ?_ (fun i hi => ?_) ?_
  · have : (fun k => decide (k < 0) && day % T 6 k == 0) = fun _ => false := by funext k; simp
    rw [this, ← bm_0]; rfl
  · have hw := ok.2.2.2.2.2.1 i hi
    have hm : day % T 6 i < 28 := Nat.lt_of_le_of_lt (Nat.mod_le _ _) hd
    simp only [f_X4_talksOf_L4, f_X4_talksOf_J50, g5, tc_p4 hc, ob, ct_s6 hc ht, ct_6_2 hc ht ok hi, b_one (by omega : i < 32), nI_or, bm_set _ (by omega : i < 8), nI_1, pk_rem (by omega : day < 2 ^ 31) (by omega : 0 < T 6 i) (by omega)]
    rw [if_neg (by rw [nI_le_i (by omega) (by omega)]; omega), if_neg (nI_nle (by omega) (by omega)), if_neg (nI_ne0 (by omega) (by omega))]
    by_cases e1 : day % T 6 i = 0
    · rw [if_pos (by rw [e1]; rfl)]
      refine st2 rfl (fun p hp => ?_)
      grind
    · rw [if_neg (by rw [nI_z (by omega)]; exact e1)]
      refine st2 rfl (fun p hp => ?_)
      grind
  · simp only [f_X4_talksOf_L4, g5, tc_p4 hc, ob, ct_s6 hc ht]
    rw [if_pos (nI_le (Nat.le_refl _) (by omega))]
