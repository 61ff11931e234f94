/-! ===== the reference: nights, lives; each fact's column is the class's ===== -/
theorem kn_kn (X : Nat) (s s' : Ks) (a a' : Nat → Int32) (μ : Mm) : m_kn X s' a' (m_kn X s a μ) = m_kn X s' a' μ := by
  have e : k_row X s'.1 (m_kn X s a μ) = k_row X s'.1 μ := by
    funext p
    unfold k_row
    by_cases h : p < 8
    · rw [if_pos h, if_pos h]
    · rw [if_neg h, if_neg h, kn_111]
      unfold k_row
      rw [if_neg h]
  unfold m_kn
  unfold m_kn at e
  rw [e]
  rw [sA_3 μ (p := X + 112) (q := X + 111) (r := X + 90) (by omega) (by omega), sA_2 _ (p := X + 111) (q := X + 90) (by omega), sA_A]
def k_ah (v : Nat) (s : Ks) (a : Nat → Int32) : Nat → Int32 := if v.testBit 0 then fun p => if p < 8 then nI (bm (s.1 p) 12) else a p else a
theorem e_byNightR {X v day : Nat} {T : Tn} {d : Nat → Nat} {row : Int64} {us : Nat → Bool} {s : Ks} {a : Nat → Int32} {μ : Mm} (h : Sh X μ) (hm : MTn (X + 90) 0 T μ) (ok : OkT T) (od : OkD (T 0 0) d) (hr : RowR row (T 0 0) d) (hu : s.2 37 = nI (bm us 8)) (hd : day < 28) (hv : v < 8) : f_X11_byNight (X + 90) row (nI day) (nI v) (m_kn X s a μ) = some (m_kn X (k_ngt T d v.testBit (fun q => dl T q day || us q) day s) (k_ah v s a) μ) := by
  have hn0 := ok.1.1
  have e8 : (8 : Int32) = nI 8 := rfl
  unfold f_X11_byNight k_ngt k_ah
  rw [if_pos (by rw [mk_90 (kn_s h)])]
  simp only [propext (wv_0 v hv)]
  by_cases ev : v.testBit 0 = true
  · rw [if_neg (by rw [ev]; decide), if_pos ev, if_pos ev]
    refine (whl_b 8 (fun i => (nI i, m_kn X s (fun p => if p < i then nI (bm (s.1 p) 12) else a p) μ)) (b := m_kn X s (fun p => if p < 8 then nI (bm (s.1 p) 12) else a p) μ) ?_ (fun i hi => ?_) ?_).trans ?_
    · rw [fill_0]; rfl
    · have hS := kn_s (s := s) (a := fun p => if p < i then nI (bm (s.1 p) 12) else a p) h
      simp only [f_X11_byNight_L11, rp_90_36 hS, rp_90_35 hS, ra_111 hS hi, wa_112 hS _ hi, ob, nI_1, kn_k hi]
      rw [if_neg (by rw [e8, nI_le_i (by omega) (by omega)]; omega)]
      congr 3
      unfold m_kn
      rw [sI_A, sA_3 _ (by omega) (by omega), rA, if_neg (by omega), rA, if_neg (by omega), rA, if_pos rfl, u1_fill (fun p => nI (bm (s.1 p) 12))]
    · simp only [f_X11_byNight_L11]
      rw [if_pos (by decide)]
    · unfold f_X11_byNight_J38
      refine whl_b (T 0 0) (fun i => (nI i, m_kn X (k_nit T d (fun q => dl T q day || us q) day s.1 s i) (fun p => if p < 8 then nI (bm (s.1 p) 12) else a p) μ)) rfl (fun i hi => ?_) ?_
      · have o2 : (k_nit T d (fun q => dl T q day || us q) day s.1 s i).2 37 = nI (bm us 8) := by rw [k_nit_o (by omega)]; exact hu
        show _ = some (Sum.inl (nI (i + 1), m_kn X (if d i ≠ 15 ∧ (dl T (d i) day || us (d i)) = false then k_lrn (k_nit T d (fun q => dl T q day || us q) day s.1 s i) i (fun f => s.1 (d i) f && !(T 0 8).testBit f) day 3 (dI (d i)) else k_nit T d (fun q => dl T q day || us q) day s.1 s i) _ μ))
        generalize k_nit T d (fun q => dl T q day || us q) day s.1 s i = s2 at o2
        have hS := kn_s (s := s2) (a := fun p => if p < 8 then nI (bm (s.1 p) 12) else a p) h
        have hM := kn_m (s := s2) (a := fun p => if p < 8 then nI (bm (s.1 p) 12) else a p) hm
        have hdI := od.1 i
        simp only [f_X11_byNight_L41, f_X11_byNight_J103, rp_90_12 hS, rp_90_36 hS, ob, mr_n0 hS hM, mr_n8 hS hM, nI_1, hr i hi, dI_neg (hdI.imp (fun q => by omega) id)]
        rw [if_neg (by rw [nI_le_i (by omega) (by omega)]; omega)]
        by_cases e15 : d i = 15
        · rw [if_pos e15, if_neg (fun q => q.1 e15)]
        · have e8 : d i < 8 := by omega
          have eI : dI (d i) = nI (d i) := if_neg e15
          rw [if_neg e15, eI, e_isDull hS hM ok (by rw [kn_90]; exact o2) e8 hd, ob]
          simp only [nI_b0]
          by_cases eu : (dl T (d i) day || us (d i)) = false
          · have e2 := e_learns (way := 3) (s := s2) (day := day) (b := fun f => s.1 (d i) f && !(T 0 8).testBit f) (fr := nI (d i)) (a := fun p => if p < 8 then nI (bm (s.1 p) 12) else a p) h (by omega : i < 8)
            rw [if_pos eu, ra_112 hS e8, ob, kn_112]
            rw [if_pos e8, b_dp, show (3 : Int32) = nI 3 from rfl, e2, ob, if_pos ⟨e15, eu⟩]
          · rw [if_neg eu, if_neg (fun q => eu q.2)]
      · have hS := kn_s (s := k_nit T d (fun q => dl T q day || us q) day s.1 s (T 0 0)) (a := fun p => if p < 8 then nI (bm (s.1 p) 12) else a p) h
        have hM := kn_m (s := k_nit T d (fun q => dl T q day || us q) day s.1 s (T 0 0)) (a := fun p => if p < 8 then nI (bm (s.1 p) 12) else a p) hm
        simp only [f_X11_byNight_L41, rp_90_12 hS, ob, mr_n0 hS hM]
        rw [if_pos (nI_le (Nat.le_refl _) (by omega))]
  · have ev : v.testBit 0 = false := by simpa using ev
    rw [if_pos ev, ev]
    rfl
def o_fg (o : Nat → Int32) : Nat → Int32 := u1 (u1 (u1 o 40 (-1)) 41 (-1)) 42 (-1)
def k_0 : Nat → Nat → Bool := fun _ _ => false
theorem e_forget {X : Nat} {μ : Mm} (h : Sh X μ) : f_X11_forget (X + 90) μ = some (m_kn X (k_0, o_fg (mm_I μ (X + 90))) (mm_I μ (X + 112)) μ) := by
  have e8 : (8 : Int32) = nI 8 := rfl
  unfold f_X11_forget
  rw [if_pos (by rw [mk_90 h])]
  refine (whl_b 8 (fun i => (nI i, ms_A μ (X + 111) (fun p => if p < i then 0 else mm_I μ (X + 111) p))) (b := ms_A μ (X + 111) (fun p => if p < 8 then 0 else mm_I μ (X + 111) p)) ?_ (fun i hi => ?_) ?_).trans ?_
  · rw [fill_0, sA_id]; rfl
  · have hS : Sh X (ms_A μ (X + 111) (fun p => if p < i then 0 else mm_I μ (X + 111) p)) := h
    simp only [f_X11_forget_L2, rp_90_35 hS, wa_111 hS _ hi, ob, nI_1]
    rw [if_neg (by rw [e8, nI_le_i (by omega) (by omega)]; omega), sA_I, u1_fill (fun _ => (0 : Int32))]
  · simp only [f_X11_forget_L2]
    rw [if_pos (by decide)]
  · unfold f_X11_forget_J21 m_kn
    have hS : ∀ g, Sh X (ms_A (ms_A μ (X + 111) (fun p => if p < 8 then 0 else mm_I μ (X + 111) p)) (X + 90) g) := fun _ => h
    have hS0 : Sh X (ms_A μ (X + 111) (fun p => if p < 8 then 0 else mm_I μ (X + 111) p)) := h
    rw [wf_90 hS0, ob, sI_A, wf_90 (hS _), ob, sA_I, wf_90 (hS _), ob, sA_I, rA, if_neg (by omega), sA_id]
    have e : k_row X (k_0, o_fg (mm_I μ (X + 90))).1 μ = fun p => if p < 8 then 0 else mm_I μ (X + 111) p := by
      funext p
      unfold k_row
      have : bm (k_0 p) 12 = 0 := bm_0.symm
      rw [show ((k_0, o_fg (mm_I μ (X + 90))) : Ks).1 = k_0 from rfl, this]
      rfl
    rw [e]
    rfl
/-! columns -/
theorem k_own_c (T : Tn) (day : Nat) (s : Ks) (f : Nat) : ∀ n, (fun p => (k_own T day s n).1 p f) = if f < n then c_own T f day (fun p => s.1 p f) else fun p => s.1 p f := by
  intro n
  induction n with
  | zero => rw [if_neg (by omega)]; rfl
  | succ n ih =>
    rw [k_own_s]
    funext p
    have ih := congrFun ih p
    by_cases e : T 3 n = day
    · rw [if_pos e]
      show ((k_own T day s n).1 p f || (p == T 2 n && f == n)) = _
      rw [ih]
      by_cases h : f = n
      · subst h
        rw [if_neg (by omega), if_pos (by omega)]
        unfold c_own
        grind
      · have h2 : (f == n) = false := by simpa using h
        rw [h2, Bool.and_false, Bool.or_false]
        by_cases h3 : f < n
        · rw [if_pos h3, if_pos (by omega)]
        · rw [if_neg h3, if_neg (by omega)]
    · rw [if_neg e]
      rw [ih]
      by_cases h : f = n
      · subst h
        rw [if_neg (by omega), if_pos (by omega)]
        unfold c_own
        have : (T 3 f == day) = false := by simpa using e
        rw [this]; simp
      · by_cases h3 : f < n
        · rw [if_pos h3, if_pos (by omega)]
        · rw [if_neg h3, if_neg (by omega)]
theorem k_naps_c (T : Tn) (d : Nat → Nat) (u : Nat → Bool) (day : Nat) (s : Ks) (f : Nat) : ∀ n, n ≤ T 0 3 → (fun p => (k_naps T d u day s n).1 p f) = if (T 0 8).testBit f then (fun p => s.1 p f) else c_naps T d u day (fun p => s.1 p f) n := by
  intro n
  induction n with
  | zero => intro _; split <;> rfl
  | succ n ih =>
    intro hn
    have ih := ih (by omega)
    show (fun p => (k_nap1 T d u day n (k_naps T d u day s n)).1 p f) = if (T 0 8).testBit f then (fun p => s.1 p f) else c_nap T d u day n (c_naps T d u day (fun p => s.1 p f) n)
    generalize k_naps T d u day s n = s2 at ih
    generalize c_naps T d u day (fun p => s.1 p f) n = κ at ih
    unfold k_nap1
    funext p
    have ih : ∀ q, s2.1 q f = if (T 0 8).testBit f then s.1 q f else κ q := fun q => by rw [congrFun ih q]; split <;> rfl
    have er : (if (T 0 8).testBit f then (fun p => s.1 p f) else c_nap T d u day n κ) p = if (T 0 8).testBit f then s.1 p f else c_nap T d u day n κ p := by split <;> rfl
    rw [er]
    have ihp := ih p
    have ihq := ih (d (T 7 n))
    by_cases e : T 8 n = day ∧ d (T 7 n) ≠ 15 ∧ u (d (T 7 n)) = false
    · rw [if_pos e]
      show (s2.1 p f || (p == T 7 n && (s2.1 (d (T 7 n)) f && !(T 0 8).testBit f))) = _
      rw [ihp, ihq]
      unfold c_nap
      have : n < T 0 3 := by omega
      grind
    · rw [if_neg e]
      rw [ihp]
      unfold c_nap
      have : n < T 0 3 := by omega
      clear ih er ihq ihp
      by_cases hp : p = T 7 n
      · subst hp
        cases h1 : (T 8 n == day) <;> cases h2 : (d (T 7 n) == 15) <;> cases h3 : u (d (T 7 n)) <;> simp_all
      · have : (T 7 n == p) = false := by simp; omega
        rw [this]
        simp
theorem k_talks_c (T : Tn) (day : Nat) (s : Ks) (f : Nat) : ∀ n, n ≤ T 0 2 → (fun p => (k_talks T day s n).1 p f) = if (T 0 4).testBit f then (fun p => s.1 p f) else c_tr T day 0 (fun p => s.1 p f) n := by
  intro n
  induction n with
  | zero => intro _; split <;> rfl
  | succ n ih =>
    intro hn
    have ih := ih (by omega)
    show (fun p => (k_talk1 T day n (k_talks T day s n)).1 p f) = if (T 0 4).testBit f then (fun p => s.1 p f) else c_talk T day (0 + n) (c_tr T day 0 (fun p => s.1 p f) n)
    rw [Nat.zero_add]
    generalize k_talks T day s n = s2 at ih
    generalize c_tr T day 0 (fun p => s.1 p f) n = κ at ih
    unfold k_talk1
    funext p
    have ih : ∀ q, s2.1 q f = if (T 0 4).testBit f then s.1 q f else κ q := fun q => by rw [congrFun ih q]; split <;> rfl
    have er : (if (T 0 4).testBit f then (fun p => s.1 p f) else c_talk T day n κ) p = if (T 0 4).testBit f then s.1 p f else c_talk T day n κ p := by split <;> rfl
    rw [er]
    have ihp := ih p
    have ih4 := ih (T 4 n)
    have ih5 := ih (T 5 n)
    by_cases e : day % T 6 n = 0
    · rw [if_pos e]
      show (s2.1 p f || (p == T 4 n && ((s2.1 (T 4 n) f || s2.1 (T 5 n) f) && !(T 0 4).testBit f)) || (p == T 5 n && ((s2.1 (T 4 n) f || s2.1 (T 5 n) f) && !(T 0 4).testBit f))) = _
      rw [ihp, ih4, ih5]
      unfold c_talk
      have : n < T 0 2 := by omega
      grind
    · rw [if_neg e]
      rw [ihp]
      unfold c_talk
      have : n < T 0 2 := by omega
      grind
theorem c_naps_ge (T : Tn) (d : Nat → Nat) (u : Nat → Bool) (day : Nat) (κ : Nat → Bool) : ∀ n, T 0 3 ≤ n → c_naps T d u day κ n = c_naps T d u day κ (T 0 3) := by
  intro n
  induction n with
  | zero => intro h; rw [show T 0 3 = 0 by omega]
  | succ n ih =>
    intro h
    by_cases e : T 0 3 = n + 1
    · rw [e]
    · show c_nap _ _ _ _ n (c_naps _ _ _ _ _ n) = _
      rw [ih (by omega)]
      funext p
      show (_ || _) = _
      have : ¬ n < T 0 3 := by omega
      simp [this]
theorem c_tr_ge (T : Tn) (day : Nat) (κ : Nat → Bool) : ∀ n, T 0 2 ≤ n → c_tr T day 0 κ n = c_tr T day 0 κ (T 0 2) := by
  intro n
  induction n with
  | zero => intro h; rw [show T 0 2 = 0 by omega]
  | succ n ih =>
    intro h
    by_cases e : T 0 2 = n + 1
    · rw [e]
    · show c_talk _ _ (0 + n) (c_tr _ _ _ _ n) = _
      rw [ih (by omega)]
      funext p
      show (_ || _) = _
      rw [decide_eq_false (by omega : ¬ 0 + n < T 0 2)]
      simp
theorem k_day_c {T : Tn} {d : Nat → Nat} {w u : Nat → Bool} {day f : Nat} {s : Ks} (ok : OkT T) (hf : f < T 0 1) : (fun p => (k_day T d w u day s).1 p f) = c_day T d w u f day (fun p => s.1 p f) := by
  have h3 := ok.1.2.2.2.1
  have h2 := ok.1.2.2.1
  have e1 : (fun p => (k_own T day s (T 0 1)).1 p f) = c_own T f day (fun p => s.1 p f) := by rw [k_own_c, if_pos hf]
  have e2 : (fun p => (if w 2 = true then k_naps T d u day (k_own T day s (T 0 1)) (T 0 3) else k_own T day s (T 0 1)).1 p f) = c_np T d w u f day (c_own T f day (fun p => s.1 p f)) := by
    unfold c_np
    by_cases hw : w 2 = true
    · rw [if_pos hw, k_naps_c _ _ _ _ _ _ _ (Nat.le_refl _), e1, hw, c_naps_ge _ _ _ _ _ 8 h3]
      cases (T 0 8).testBit f <;> rfl
    · rw [if_neg hw, e1]
      have hw : w 2 = false := by simpa using hw
      rw [hw]; rfl
  unfold k_day c_day
  dsimp only
  generalize (if w 2 = true then k_naps T d u day (k_own T day s (T 0 1)) (T 0 3) else k_own T day s (T 0 1)) = s2 at e2
  rw [← e2]
  unfold c_tk c_talks
  by_cases hw : w 1 = true
  · rw [if_pos hw, k_talks_c _ _ _ _ _ (Nat.le_refl _), hw, c_tr_ge _ _ _ 8 h2]
    cases (T 0 4).testBit f <;> rfl
  · rw [if_neg hw]
    have hw : w 1 = false := by simpa using hw
    rw [hw]; rfl
theorem k_nit_c (T : Tn) (d : Nat → Nat) (u : Nat → Bool) (day : Nat) (s : Ks) (f : Nat) : ∀ n p, (k_nit T d u day s.1 s n).1 p f = (s.1 p f || (decide (p < n) && !(d p == 15) && !u (d p) && s.1 (d p) f && !(T 0 8).testBit f)) := by
  intro n
  induction n with
  | zero => intro p; show s.1 p f = _; simp
  | succ n ih =>
    intro p
    have ihp := ih p
    unfold k_nit
    by_cases e : d n ≠ 15 ∧ u (d n) = false
    · rw [if_pos e]
      show ((k_nit T d u day s.1 s n).1 p f || (p == n && (s.1 (d n) f && !(T 0 8).testBit f))) = _
      rw [ihp]
      grind
    · rw [if_neg e, ihp]
      grind
theorem k_ngt_c {T : Tn} {d : Nat → Nat} {w u : Nat → Bool} {day f : Nat} {s : Ks} (od : OkD (T 0 0) d) : (fun p => (k_ngt T d w u day s).1 p f) = c_ngt T d w u f (fun p => s.1 p f) := by
  unfold k_ngt c_ngt
  by_cases hw : w 0 = true
  · rw [if_pos hw, hw]
    funext p
    rw [k_nit_c]
    have := od.2.1 p
    unfold c_nit
    by_cases h : p < T 0 0
    · cases (T 0 8).testBit f <;> simp [h]
    · have := this (by omega)
      cases (T 0 8).testBit f <;> simp [h, this]
  · rw [if_neg hw]
    have hw : w 0 = false := by simpa using hw
    rw [hw]; rfl
def k_run (T : Tn) (d : Nat → Nat) (w us : Nat → Bool) (s : Ks) : Nat → Ks
  | 0 => s
  | day + 1 => k_ngt T d w (fun q => dl T q day || us q) day (k_day T d w (fun q => dl T q day || us q) day (k_run T d w us s day))
theorem k_run_o {T : Tn} {d : Nat → Nat} {w us : Nat → Bool} {s : Ks} {j : Nat} (h : j < 40 ∨ 42 < j) : ∀ n, (k_run T d w us s n).2 j = s.2 j := by
  intro n
  induction n with
  | zero => rfl
  | succ n ih => unfold k_run; rw [k_ngt_o h, k_day_o h, ih]
theorem k_run_c {T : Tn} {d : Nat → Nat} {w us : Nat → Bool} {o : Nat → Int32} {f : Nat} (ok : OkT T) (od : OkD (T 0 0) d) (hf : f < T 0 1) : ∀ n, (fun p => (k_run T d w us (k_0, o) n).1 p f) = c_beh T d w us f n := by
  intro n
  induction n with
  | zero => rfl
  | succ n ih =>
    unfold k_run c_beh
    rw [k_ngt_c od, k_day_c ok hf, ih]
