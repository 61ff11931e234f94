/-! ===== the reference lives through days ===== -/
abbrev Ks : Type := (Nat → Nat → Bool) × (Nat → Int32)
def k_lrn (s : Ks) (p : Nat) (b : Nat → Bool) (day way : Nat) (fr : Int32) : Ks :=
  (fun p' f => s.1 p' f || (p' == p && b f), if nI p = s.2 38 ∧ s.2 40 = -1 ∧ ((nI (bm b 12) &&& (nI (bm (s.1 p) 12) ^^^ (-1 : Int32))) >>> (s.2 39 &&& 31)) &&& 1 = 1 then u1 (u1 (u1 s.2 40 (nI day)) 41 (nI way)) 42 fr else s.2)
def k_row (X : Nat) (κ : Nat → Nat → Bool) (μ : Mm) : Nat → Int32 := fun p => if p < 8 then nI (bm (κ p) 12) else mm_I μ (X + 111) p
def m_kn (X : Nat) (s : Ks) (a : Nat → Int32) (μ : Mm) : Mm := ms_A (ms_A (ms_A μ (X + 112) a) (X + 111) (k_row X s.1 μ)) (X + 90) s.2
theorem kn_90 (X : Nat) (s : Ks) (a : Nat → Int32) (μ : Mm) : mm_I (m_kn X s a μ) (X + 90) = s.2 := by unfold m_kn; rw [rA, if_pos rfl]
theorem kn_111 (X : Nat) (s : Ks) (a : Nat → Int32) (μ : Mm) : mm_I (m_kn X s a μ) (X + 111) = k_row X s.1 μ := by unfold m_kn; rw [rA, if_neg (by omega), rA, if_pos rfl]
theorem kn_112 (X : Nat) (s : Ks) (a : Nat → Int32) (μ : Mm) : mm_I (m_kn X s a μ) (X + 112) = a := by unfold m_kn; rw [rA, if_neg (by omega), rA, if_neg (by omega), rA, if_pos rfl]
theorem kn_o {X : Nat} {s : Ks} {a : Nat → Int32} {μ : Mm} {q : Nat} (h1 : q ≠ X + 90) (h2 : q ≠ X + 111) (h3 : q ≠ X + 112) : mm_I (m_kn X s a μ) q = mm_I μ q := by unfold m_kn; rw [rA, if_neg h1, rA, if_neg h2, rA, if_neg h3]
theorem kn_k {X : Nat} {s : Ks} {a : Nat → Int32} {μ : Mm} {p : Nat} (hp : p < 8) : mm_I (m_kn X s a μ) (X + 111) p = nI (bm (s.1 p) 12) := by rw [kn_111]; exact if_pos hp
theorem kn_m {X : Nat} {T : Tn} {s : Ks} {a : Nat → Int32} {μ : Mm} (hm : MTn (X + 90) 0 T μ) : MTn (X + 90) 0 T (m_kn X s a μ) := mtn_x (fun q h1 h2 => kn_o (by omega) (by omega) (by omega)) hm
theorem kn_s {X : Nat} {s : Ks} {a : Nat → Int32} {μ : Mm} (h : Sh X μ) : Sh X (m_kn X s a μ) := h
theorem kn_self {X : Nat} {μ : Mm} {κ : Nat → Nat → Bool} (hk : ∀ p, p < 8 → mm_I μ (X + 111) p = nI (bm (κ p) 12)) : m_kn X (κ, mm_I μ (X + 90)) (mm_I μ (X + 112)) μ = μ := by
  unfold m_kn
  have e : k_row X κ μ = mm_I (ms_A μ (X + 112) (mm_I μ (X + 112))) (X + 111) := by
    rw [sA_id]
    funext p
    unfold k_row
    by_cases hp : p < 8
    · rw [if_pos hp, hk p hp]
    · rw [if_neg hp]
  rw [sA_id] at e ⊢
  show ms_A (ms_A μ (X + 111) (k_row X κ μ)) (X + 90) (mm_I μ (X + 90)) = μ
  rw [e, sA_id, sA_id]
theorem e_learns {X p day way : Nat} {s : Ks} {b : Nat → Bool} {fr : Int32} {a : Nat → Int32} {μ : Mm} (h : Sh X μ) (hp : p < 8) : f_X11_learns (X + 90) (nI p) (nI (bm b 12)) (nI day) (nI way) fr (m_kn X s a μ) = some (m_kn X (k_lrn s p b day way fr) a μ) := by
  have hs : Sh X (m_kn X s a μ) := h
  have ek : ms_I (m_kn X s a μ) (X + 111) p (mm_I (m_kn X s a μ) (X + 111) p ||| nI (bm b 12)) = m_kn X (fun p' f => s.1 p' f || (p' == p && b f), s.2) a μ := by
    rw [sI_A, kn_111]
    unfold m_kn
    rw [sA_2 _ (by omega)]
    congr 2
    funext p'
    unfold k_row
    by_cases e : p' = p
    · rw [e, u1_s, if_pos hp, if_pos hp, nI_or, bm_or]
      congr 1
      apply bm_x
      intro f hf
      simp
    · rw [u1_n _ _ e]
      by_cases h8 : p' < 8
      · rw [if_pos h8, if_pos h8]
        congr 1
        apply bm_x
        intro f hf
        simp [e]
      · rw [if_neg h8, if_neg h8]
  have J41 : f_X11_learns_J42 (X + 90) (nI p) (nI (bm b 12)) (nI day) (nI way) fr 0 (m_kn X s a μ) = some (m_kn X (fun p' f => s.1 p' f || (p' == p && b f), s.2) a μ) := by
    unfold f_X11_learns_J42
    rw [rp_90_35 hs, ob, ra_111 hs hp, ob, wa_111 hs _ hp, ob, ek, if_pos rfl]
  have J42 : f_X11_learns_J42 (X + 90) (nI p) (nI (bm b 12)) (nI day) (nI way) fr 1 (m_kn X s a μ) = some (m_kn X (fun p' f => s.1 p' f || (p' == p && b f), u1 (u1 (u1 s.2 40 (nI day)) 41 (nI way)) 42 fr) a μ) := by
    unfold f_X11_learns_J42
    rw [rp_90_35 hs, ob, ra_111 hs hp, ob, wa_111 hs _ hp, ob, ek, if_neg (by decide)]
    unfold m_kn
    have h2 : ∀ o, Sh X (ms_A (ms_A (ms_A μ (X + 112) a) (X + 111) (k_row X (fun p' f => s.1 p' f || (p' == p && b f)) μ)) (X + 90) o) := fun _ => h
    rw [wf_90 (h2 _), ob, sA_I, wf_90 (h2 _), ob, sA_I, wf_90 (h2 _), ob, sA_I]
  unfold f_X11_learns f_X11_learns_J41 k_lrn
  rw [if_pos (by rw [mk_90 hs]), rf_90 hs, ob, rf_90 hs, ob, rp_90_35 hs, ob, ra_111 hs hp, ob, rf_90 hs, ob, kn_90, kn_k hp, J41, J42]
  by_cases e1 : nI p = s.2 38
  · rw [if_pos e1]
    by_cases e2 : s.2 40 = -1
    · rw [if_pos e2]
      by_cases e3 : ((nI (bm b 12) &&& (nI (bm (s.1 p) 12) ^^^ (-1 : Int32))) >>> (s.2 39 &&& 31)) &&& 1 = 1
      · rw [if_pos e3, if_pos ⟨e1, e2, e3⟩]
      · rw [if_neg e3, if_neg (fun q => e3 q.2.2)]
    · rw [if_neg e2, if_neg (fun q => e2 q.2.1)]
  · rw [if_neg e1, if_neg (fun q => e1 q.1)]
/-- what stays of the object -/
theorem k_lrn_o {s : Ks} {p day way : Nat} {b : Nat → Bool} {fr : Int32} {j : Nat} (h : j < 40 ∨ 42 < j) : (k_lrn s p b day way fr).2 j = s.2 j := by
  unfold k_lrn
  dsimp only
  split
  · rw [u1_n _ _ (by omega), u1_n _ _ (by omega), u1_n _ _ (by omega)]
  · rfl
theorem e_isDull {X q day : Nat} {T : Tn} {us : Nat → Bool} {μ : Mm} (h : Sh X μ) (hm : MTn (X + 90) 0 T μ) (ok : OkT T) (hu : mm_I μ (X + 90) 37 = nI (bm us 8)) (hq : q < 8) (hd : day < 28) : f_X11_isDull (X + 90) (nI q) (nI day) μ = some (nI (dl T q day || us q).toNat) := by
  have hn0 := ok.1.1
  have hn := ok.1.2.2.2.2.2.2.2.1
  unfold f_X11_isDull
  rw [if_pos (by rw [mk_90 h]), rf_90 h, ob, hu, bmb hq (by decide)]
  simp only [nI_b1]
  by_cases e : us q = true
  · rw [if_pos e, e]; simp; rfl
  · rw [if_neg e]
    have e : us q = false := by simpa using e
    rw [e, Bool.or_false]
    refine (whl_fb (T 0 6) (fun i => nI i) (fun k => T 9 k == q && decide (T 10 k ≤ day) && decide (day ≤ T 11 k)) (fun _ => .inl ()) (b := .inr ()) rfl (fun i hi hp => ?_) (fun i hi hp => ?_) ?_).trans ?_
    · have hw := ok.2.2.2.2.2.2.2.1 i hi
      simp only [f_X11_isDull_L16, f_X11_isDull_J58, rp_90_12 h, rp_90_22 h, rp_90_23 h, rp_90_24 h, ob, mr_n6 h hm, mr_102 h hm ok hi, mr_103 h hm ok hi, mr_104 h hm ok hi, e_in, nI_1]
      rw [if_neg (by rw [nI_le_i (by omega) (by omega)]; omega)]
      by_cases e1 : T 9 i = q
      · rw [if_pos (by rw [e1]), if_pos (bz_f (by rw [nI_le_i (by omega) (by omega), nI_le_i (by omega) (by omega)]; grind))]
      · rw [if_neg (by rw [nI_eq_i (by omega) (by omega)]; exact e1)]
    · have hw := ok.2.2.2.2.2.2.2.1 i hi
      have hp1 : T 9 i = q := by grind
      have hp2 : T 10 i ≤ day ∧ day ≤ T 11 i := by grind
      simp only [f_X11_isDull_L16, f_X11_isDull_J58, rp_90_12 h, rp_90_22 h, rp_90_23 h, rp_90_24 h, ob, mr_n6 h hm, mr_102 h hm ok hi, mr_103 h hm ok hi, mr_104 h hm ok hi, e_in, nI_1]
      rw [if_neg (by rw [nI_le_i (by omega) (by omega)]; omega), if_pos (by rw [hp1]), if_neg (by rw [bz_t (by rw [nI_le_i (by omega) (by omega), nI_le_i (by omega) (by omega)]; exact hp2)]; decide)]
    · simp only [f_X11_isDull_L16, rp_90_12 h, ob, mr_n6 h hm]
      rw [if_pos (nI_le (Nat.le_refl _) (by omega))]
    · cases e2 : ff (fun k => T 9 k == q && decide (T 10 k ≤ day) && decide (day ≤ T 11 k)) (T 0 6) with
      | none =>
        have : dl T q day = false := anyb_f.mpr (ff_none.mp e2)
        rw [this]; rfl
      | some j =>
        obtain ⟨h1, h2, -⟩ := ff_some.mp e2
        have : dl T q day = true := anyb_t.mpr ⟨j, h1, h2⟩
        rw [this]; rfl
/-- the row of a turning -/
def RowR (row : Int64) (n : Nat) (d : Nat → Nat) : Prop := ∀ p, p < n → ∀ μ, f_X11_dreamtBy row (nI p) μ = some (dI (d p))
def k_own (T : Tn) (day : Nat) (s : Ks) : Nat → Ks
  | 0 => s
  | f + 1 => if T 3 f = day then k_lrn (k_own T day s f) (T 2 f) (fun g => g == f) day 0 (-1) else k_own T day s f
theorem k_own_s (T : Tn) (day : Nat) (s : Ks) (f : Nat) : k_own T day s (f + 1) = if T 3 f = day then k_lrn (k_own T day s f) (T 2 f) (fun g => g == f) day 0 (-1) else k_own T day s f := rfl
def k_nap1 (T : Tn) (d : Nat → Nat) (u : Nat → Bool) (day k : Nat) (s : Ks) : Ks := if T 8 k = day ∧ d (T 7 k) ≠ 15 ∧ u (d (T 7 k)) = false then k_lrn s (T 7 k) (fun f => s.1 (d (T 7 k)) f && !(T 0 8).testBit f) day 1 (dI (d (T 7 k))) else s
def k_naps (T : Tn) (d : Nat → Nat) (u : Nat → Bool) (day : Nat) (s : Ks) : Nat → Ks
  | 0 => s
  | k + 1 => k_nap1 T d u day k (k_naps T d u day s k)
def k_talk1 (T : Tn) (day k : Nat) (s : Ks) : Ks := if day % T 6 k = 0 then k_lrn (k_lrn s (T 4 k) (fun f => (s.1 (T 4 k) f || s.1 (T 5 k) f) && !(T 0 4).testBit f) day 2 (nI (T 5 k))) (T 5 k) (fun f => (s.1 (T 4 k) f || s.1 (T 5 k) f) && !(T 0 4).testBit f) day 2 (nI (T 4 k)) else s
def k_talks (T : Tn) (day : Nat) (s : Ks) : Nat → Ks
  | 0 => s
  | k + 1 => k_talk1 T day k (k_talks T day s k)
def k_day (T : Tn) (d : Nat → Nat) (w u : Nat → Bool) (day : Nat) (s : Ks) : Ks :=
  let s1 := k_own T day s (T 0 1)
  let s2 := if w 2 then k_naps T d u day s1 (T 0 3) else s1
  if w 1 then k_talks T day s2 (T 0 2) else s2
def k_nit (T : Tn) (d : Nat → Nat) (u : Nat → Bool) (day : Nat) (κ : Nat → Nat → Bool) (s : Ks) : Nat → Ks
  | 0 => s
  | p + 1 => if d p ≠ 15 ∧ u (d p) = false then k_lrn (k_nit T d u day κ s p) p (fun f => κ (d p) f && !(T 0 8).testBit f) day 3 (dI (d p)) else k_nit T d u day κ s p
def k_ngt (T : Tn) (d : Nat → Nat) (w u : Nat → Bool) (day : Nat) (s : Ks) : Ks := if w 0 then k_nit T d u day s.1 s (T 0 0) else s
theorem k_own_o {T : Tn} {day : Nat} {s : Ks} {j : Nat} (h : j < 40 ∨ 42 < j) : ∀ n, (k_own T day s n).2 j = s.2 j := by
  intro n
  induction n with
  | zero => rfl
  | succ n ih =>
    unfold k_own
    split
    · rw [k_lrn_o h, ih]
    · exact ih
theorem k_naps_o {T : Tn} {d : Nat → Nat} {u : Nat → Bool} {day : Nat} {s : Ks} {j : Nat} (h : j < 40 ∨ 42 < j) : ∀ n, (k_naps T d u day s n).2 j = s.2 j := by
  intro n
  induction n with
  | zero => rfl
  | succ n ih =>
    unfold k_naps k_nap1
    split
    · rw [k_lrn_o h, ih]
    · exact ih
theorem k_talks_o {T : Tn} {day : Nat} {s : Ks} {j : Nat} (h : j < 40 ∨ 42 < j) : ∀ n, (k_talks T day s n).2 j = s.2 j := by
  intro n
  induction n with
  | zero => rfl
  | succ n ih =>
    unfold k_talks k_talk1
    split
    · rw [k_lrn_o h, k_lrn_o h, ih]
    · exact ih
theorem k_day_o {T : Tn} {d : Nat → Nat} {w u : Nat → Bool} {day : Nat} {s : Ks} {j : Nat} (h : j < 40 ∨ 42 < j) : (k_day T d w u day s).2 j = s.2 j := by
  unfold k_day
  dsimp only
  split
  · rw [k_talks_o h]
    split
    · rw [k_naps_o h, k_own_o h]
    · rw [k_own_o h]
  · split
    · rw [k_naps_o h, k_own_o h]
    · rw [k_own_o h]
theorem k_nit_o {T : Tn} {d : Nat → Nat} {u : Nat → Bool} {day : Nat} {κ : Nat → Nat → Bool} {s : Ks} {j : Nat} (h : j < 40 ∨ 42 < j) : ∀ n, (k_nit T d u day κ s n).2 j = s.2 j := by
  intro n
  induction n with
  | zero => rfl
  | succ n ih =>
    unfold k_nit
    split
    · rw [k_lrn_o h, ih]
    · exact ih
theorem k_ngt_o {T : Tn} {d : Nat → Nat} {w u : Nat → Bool} {day : Nat} {s : Ks} {j : Nat} (h : j < 40 ∨ 42 < j) : (k_ngt T d w u day s).2 j = s.2 j := by
  unfold k_ngt
  split
  · exact k_nit_o h _
  · rfl
theorem wv_3 : ∀ v, v < 8 → (nI v &&& (4 : Int32) ≤ 0 ↔ v.testBit 2 = false) := by decide +kernel
theorem wv_4 : ∀ v, v < 8 → (nI v &&& (2 : Int32) ≤ 0 ↔ v.testBit 1 = false) := by decide +kernel
theorem bmq {f n : Nat} (hf : f < n) : nI (2 ^ f) = nI (bm (fun g => g == f) n) := by rw [bm_1 hf]
theorem b_dp {b : Nat → Bool} {m : Nat} : nI (bm b 12) &&& (nI m ^^^ (-1 : Int32)) = nI (bm (fun f => b f && !m.testBit f) 12) := by
  rw [b_andn' (by decide) (bm_lt b 12)]
  congr 1
  apply bm_x
  intro i hi
  rw [bm_t, decide_eq_true hi]
  rfl
theorem k_talks_z {T : Tn} {day : Nat} {s : Ks} : k_talks T day s 0 = s := rfl
theorem e_byDayR {X v day : Nat} {T : Tn} {d : Nat → Nat} {row : Int64} {us : Nat → Bool} {s : Ks} {a : Nat → Int32} {μ : Mm} (h : Sh X μ) (hm : MTn (X + 90) 0 T μ) (ok : OkT T) (od : OkD (T 0 0) d) (hr : RowR row (T 0 0) d) (hu : s.2 37 = nI (bm us 8)) (hd : day < 28) (hv : v < 8) : f_X11_byDay (X + 90) row (nI day) (nI v) (m_kn X s a μ) = some (m_kn X (k_day T d v.testBit (fun q => dl T q day || us q) day s) a μ) := by
  have hn0 := ok.1.1
  have hn1 := ok.1.2.1
  have hn2 := ok.1.2.2.1
  have hn3 := ok.1.2.2.2.1
  unfold f_X11_byDay
  rw [if_pos (by rw [mk_90 (kn_s h)])]
  refine (whl_b (T 0 1) (fun i => (nI i, m_kn X (k_own T day s i) a μ)) (b := m_kn X (k_own T day s (T 0 1)) a μ) rfl (fun i hi => ?_) ?_).trans ?_
  · have hw := ok.2.2.2.2.1 i hi
    have hS := kn_s (s := k_own T day s i) (a := a) h
    have hM := kn_m (s := k_own T day s i) (a := a) hm
    simp only [f_X11_byDay_L3, f_X11_byDay_J43, rp_90_12 hS, rp_90_16 hS, rp_90_15 hS, ob, mr_n1 hS hM, mr_96 hS hM ok hi, mr_95 hS hM ok hi, nI_1, b_one (by omega : i < 32), bmq (by omega : i < 12)]
    rw [if_neg (by rw [nI_le_i (by omega) (by omega)]; omega)]
    by_cases e : T 3 i = day
    · have e2 := e_learns (way := 0) (s := k_own T day s i) (day := day) (b := fun g => g == i) (fr := -1) (a := a) h (by omega : T 2 i < 8)
      rw [if_pos (by rw [e]), show (0 : Int32) = nI 0 from rfl, e2, ob, k_own_s, if_pos e]
    · rw [if_neg (by rw [nI_eq_i (by omega) (by omega)]; exact e)]
      rw [k_own_s, if_neg e]
  · have hS := kn_s (s := k_own T day s (T 0 1)) (a := a) h
    have hM := kn_m (s := k_own T day s (T 0 1)) (a := a) hm
    simp only [f_X11_byDay_L3, rp_90_12 hS, ob, mr_n1 hS hM]
    rw [if_pos (nI_le (Nat.le_refl _) (by omega))]
  · unfold k_day
    dsimp only
    have o1 : (k_own T day s (T 0 1)).2 37 = nI (bm us 8) := by rw [k_own_o (by omega)]; exact hu
    generalize k_own T day s (T 0 1) = s1 at o1
    unfold f_X11_byDay_J49
    have nap : whl (f_X11_byDay_L52 (X + 90) row (nI day) (nI v)) ((0 : Int32), m_kn X s1 a μ) = some (m_kn X (if v.testBit 2 then k_naps T d (fun q => dl T q day || us q) day s1 (T 0 3) else s1) a μ) := by
      by_cases ev : v.testBit 2 = true
      · rw [if_pos ev]
        refine whl_c (T 0 3) (fun i => (nI i, m_kn X (k_naps T d (fun q => dl T q day || us q) day s1 i) a μ)) rfl (fun i hi => ?_) ?_
        · have hw := ok.2.2.2.2.2.2.1 i hi
          have o2 : (k_naps T d (fun q => dl T q day || us q) day s1 i).2 37 = nI (bm us 8) := by rw [k_naps_o (by omega)]; exact o1
          show _ = some (Sum.inl (nI (i + 1), m_kn X (k_nap1 T d (fun q => dl T q day || us q) day i (k_naps T d (fun q => dl T q day || us q) day s1 i)) a μ))
          generalize k_naps T d (fun q => dl T q day || us q) day s1 i = s2 at o2
          have hS := kn_s (s := s2) (a := a) h
          have hM := kn_m (s := s2) (a := a) hm
          have hdI := od.1 (T 7 i)
          simp only [f_X11_byDay_L52, f_X11_byDay_J142, rp_90_12 hS, rp_90_20 hS, rp_90_21 hS, rp_90_35 hS, ob, mr_n3 hS hM, mr_n8 hS hM, mr_100 hS hM ok hi, mr_101 hS hM ok hi, nI_1, hr _ hw.1, propext (wv_3 v hv), ev]
          rw [if_neg (by rw [nI_le_i (by omega) (by omega)]; omega), if_neg (by decide)]
          unfold k_nap1
          by_cases e : T 8 i = day
          · rw [if_pos (by rw [e])]
            simp only [dI_neg (hdI.imp (fun q => by omega) id)]
            by_cases e15 : d (T 7 i) = 15
            · rw [if_pos e15, if_neg (fun q => q.2.1 e15)]
            · have e8 : d (T 7 i) < 8 := by omega
              have eI : dI (d (T 7 i)) = nI (d (T 7 i)) := if_neg e15
              rw [if_neg e15, eI, e_isDull hS hM ok (by rw [kn_90]; exact o2) e8 hd, ob]
              simp only [nI_b0]
              by_cases eu : (dl T (d (T 7 i)) day || us (d (T 7 i))) = false
              · have e2 := e_learns (way := 1) (s := s2) (day := day) (b := fun f => s2.1 (d (T 7 i)) f && !(T 0 8).testBit f) (fr := nI (d (T 7 i))) (a := a) h (by omega : T 7 i < 8)
                rw [if_pos eu, ra_111 hS e8, ob, kn_k e8, b_dp, show (1 : Int32) = nI 1 from rfl, e2, ob, if_pos ⟨e, e15, eu⟩]
              · rw [if_neg eu, if_neg (fun q => eu q.2.2)]
          · rw [if_neg (by rw [nI_eq_i (by omega) (by omega)]; exact e), if_neg (fun q => e q.1)]
        · have hS := kn_s (s := k_naps T d (fun q => dl T q day || us q) day s1 (T 0 3)) (a := a) h
          have hM := kn_m (s := k_naps T d (fun q => dl T q day || us q) day s1 (T 0 3)) (a := a) hm
          simp only [f_X11_byDay_L52, rp_90_12 hS, ob, mr_n3 hS hM]
          rw [if_pos (nI_le (Nat.le_refl _) (by omega))]
      · have ev : v.testBit 2 = false := by simpa using ev
        have hS := kn_s (s := s1) (a := a) h
        have hM := kn_m (s := s1) (a := a) hm
        rw [ev]
        refine whl_r ?_
        simp only [f_X11_byDay_L52, rp_90_12 hS, ob, mr_n3 hS hM, propext (wv_3 v hv), ev]
        by_cases e : nI (T 0 3) ≤ 0
        · rw [if_pos e]; rfl
        · rw [if_neg e, if_pos True.intro]; rfl
    rw [nap, ob]
    have o3 : (if v.testBit 2 then k_naps T d (fun q => dl T q day || us q) day s1 (T 0 3) else s1).2 37 = nI (bm us 8) := by
      split
      · rw [k_naps_o (by omega)]; exact o1
      · exact o1
    generalize (if v.testBit 2 then k_naps T d (fun q => dl T q day || us q) day s1 (T 0 3) else s1) = s3 at o3
    unfold f_X11_byDay_J148
    by_cases ev : v.testBit 1 = true
    · rw [if_pos ev]
      refine whl_b (T 0 2) (fun i => (nI i, m_kn X (k_talks T day s3 i) a μ)) rfl (fun i hi => ?_) ?_
      · have hw := ok.2.2.2.2.2.1 i hi
        have hmod : day % T 6 i < 28 := Nat.lt_of_le_of_lt (Nat.mod_le _ _) hd
        show _ = some (Sum.inl (nI (i + 1), m_kn X (k_talk1 T day i (k_talks T day s3 i)) a μ))
        generalize k_talks T day s3 i = s4
        have hS := kn_s (s := s4) (a := a) h
        have hM := kn_m (s := s4) (a := a) hm
        simp only [f_X11_byDay_L151, f_X11_byDay_J252, rp_90_12 hS, rp_90_17 hS, rp_90_18 hS, rp_90_19 hS, rp_90_35 hS, ob, mr_n2 hS hM, mr_n4 hS hM, mr_97 hS hM ok hi, mr_98 hS hM ok hi, mr_99 hS hM ok hi, nI_1, propext (wv_4 v hv), ev, pk_rem (by omega : day < 2 ^ 31) (by omega : 0 < T 6 i) (by omega), ra_111 hS (by omega : T 4 i < 8), ra_111 hS (by omega : T 5 i < 8), kn_k (by omega : T 4 i < 8), kn_k (by omega : T 5 i < 8), nI_or, bm_or, b_dp]
        rw [if_neg (by rw [nI_le_i (by omega) (by omega)]; omega), if_neg (by decide), if_neg (nI_ne0 (by omega) (by omega))]
        unfold k_talk1
        by_cases e : day % T 6 i = 0
        · have e1 := e_learns (way := 2) (s := s4) (day := day) (b := fun f => (s4.1 (T 4 i) f || s4.1 (T 5 i) f) && !(T 0 4).testBit f) (fr := nI (T 5 i)) (a := a) h (by omega : T 4 i < 8)
          have e2 := e_learns (way := 2) (s := k_lrn s4 (T 4 i) (fun f => (s4.1 (T 4 i) f || s4.1 (T 5 i) f) && !(T 0 4).testBit f) day 2 (nI (T 5 i))) (day := day) (b := fun f => (s4.1 (T 4 i) f || s4.1 (T 5 i) f) && !(T 0 4).testBit f) (fr := nI (T 4 i)) (a := a) h (by omega : T 5 i < 8)
          rw [if_pos (by rw [e]; rfl), show (2 : Int32) = nI 2 from rfl, e1, ob, e2, ob, if_pos e]
        · rw [if_neg (by rw [nI_z (by omega)]; exact e), if_neg e]
      · have hS := kn_s (s := k_talks T day s3 (T 0 2)) (a := a) h
        have hM := kn_m (s := k_talks T day s3 (T 0 2)) (a := a) hm
        simp only [f_X11_byDay_L151, rp_90_12 hS, ob, mr_n2 hS hM]
        rw [if_pos (nI_le (Nat.le_refl _) (by omega))]
    · have ev : v.testBit 1 = false := by simpa using ev
      have hS := kn_s (s := s3) (a := a) h
      have hM := kn_m (s := s3) (a := a) hm
      rw [ev]
      have : whl (f_X11_byDay_L151 (X + 90) (nI day) (nI v)) ((0 : Int32), m_kn X s3 a μ) = some (m_kn X s3 a μ) := by
        refine whl_r ?_
        simp only [f_X11_byDay_L151, rp_90_12 hS, ob, mr_n2 hS hM, propext (wv_4 v hv), ev]
        by_cases e : nI (T 0 2) ≤ 0
        · rw [if_pos e]
        · rw [if_neg e, if_pos True.intro]
      rw [this]; rfl
