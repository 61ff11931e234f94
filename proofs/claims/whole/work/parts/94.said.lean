/-! ===== said, over ===== -/
def fw (T : Tn) (w d : Nat) : Option Nat := ff (fun i => !dl T w (d + i)) (28 - d)
def dmr (n : Nat) (d : Nat → Nat) (w : Nat) : Option Nat := ff (fun p => d p == w) n
/-- the chain of those who say on: who, and from which day -/
def sgX (T : Tn) (t a d0 : Nat) : Nat → Nat × Nat
  | 0 => (a, d0)
  | j + 1 => ((dmr (T 0 0) (dr T t) (sgX T t a d0 j).1).getD 0, (sgX T t a d0 j).2 + (fw T (sgX T t a d0 j).1 (sgX T t a d0 j).2).getD 0 + 1)
def sgG (T : Tn) (t a d0 j : Nat) : Bool := (fw T (sgX T t a d0 j).1 (sgX T t a d0 j).2).isSome && (dmr (T 0 0) (dr T t) (sgX T t a d0 j).1).isSome && !((sgX T t a d0 (j + 1)).1 == a)
theorem sg_s {T : Tn} {t a d0 j : Nat} (h : sgG T t a d0 j = true) : ∃ k x, fw T (sgX T t a d0 j).1 (sgX T t a d0 j).2 = some k ∧ dmr (T 0 0) (dr T t) (sgX T t a d0 j).1 = some x ∧ x ≠ a ∧ sgX T t a d0 (j + 1) = (x, (sgX T t a d0 j).2 + k + 1) := by
  unfold sgG at h
  cases e1 : fw T (sgX T t a d0 j).1 (sgX T t a d0 j).2 with
  | none => rw [e1] at h; cases h
  | some k =>
    cases e2 : dmr (T 0 0) (dr T t) (sgX T t a d0 j).1 with
    | none => rw [e1, e2] at h; cases h
    | some x =>
      have e3 : sgX T t a d0 (j + 1) = (x, (sgX T t a d0 j).2 + k + 1) := by
        show ((dmr (T 0 0) (dr T t) (sgX T t a d0 j).1).getD 0, (sgX T t a d0 j).2 + (fw T (sgX T t a d0 j).1 (sgX T t a d0 j).2).getD 0 + 1) = _
        rw [e1, e2]; rfl
      rw [e1, e2, e3] at h
      refine ⟨k, x, rfl, rfl, fun q => ?_, e3⟩
      subst q
      simp at h
theorem sg_n {T : Tn} {t a d0 j k x : Nat} (h1 : fw T (sgX T t a d0 j).1 (sgX T t a d0 j).2 = some k) (h2 : dmr (T 0 0) (dr T t) (sgX T t a d0 j).1 = some x) : sgX T t a d0 (j + 1) = (x, (sgX T t a d0 j).2 + k + 1) ∧ sgG T t a d0 j = !(x == a) := by
  have e3 : sgX T t a d0 (j + 1) = (x, (sgX T t a d0 j).2 + k + 1) := by
    show ((dmr (T 0 0) (dr T t) (sgX T t a d0 j).1).getD 0, (sgX T t a d0 j).2 + (fw T (sgX T t a d0 j).1 (sgX T t a d0 j).2).getD 0 + 1) = _
    rw [h1, h2]; rfl
  refine ⟨e3, ?_⟩
  unfold sgG
  rw [h1, h2, e3]; rfl
theorem fw_lt {T : Tn} {w d k : Nat} (h : fw T w d = some k) : d + k < 28 ∧ dl T w (d + k) = false ∧ ∀ l, l < k → dl T w (d + l) = true := by
  obtain ⟨h1, h2, h3⟩ := ff_some.mp h
  exact ⟨by omega, by simpa using h2, fun l hl => by simpa using h3 l hl⟩
theorem dmr_lt {n w x : Nat} {d : Nat → Nat} (h : dmr n d w = some x) : x < n ∧ d x = w := by
  obtain ⟨h1, h2, -⟩ := ff_some.mp h
  exact ⟨h1, by simpa using h2⟩
theorem sg_in {T : Tn} {t a d0 : Nat} (ha : a < T 0 0) (hd : d0 ≤ 28) : ∀ j, (∀ l, l < j → sgG T t a d0 l = true) → (sgX T t a d0 j).1 < T 0 0 ∧ (sgX T t a d0 j).2 ≤ 28 := by
  intro j
  cases j with
  | zero => intro _; exact ⟨ha, hd⟩
  | succ j =>
    intro h
    obtain ⟨k, x, e1, e2, -, e4⟩ := sg_s (h j (by omega))
    rw [e4]
    have := fw_lt e1
    exact ⟨(dmr_lt e2).1, by show _ + _ + 1 ≤ 28; omega⟩
theorem sg_inj {T : Tn} {t a d0 j : Nat} (h : ∀ l, l < j → sgG T t a d0 l = true) : ∀ i k, i < k → k ≤ j → (sgX T t a d0 i).1 ≠ (sgX T t a d0 k).1 := by
  intro i
  induction i with
  | zero =>
    intro k h1 h2
    obtain ⟨k', rfl⟩ : ∃ k', k = k' + 1 := ⟨k - 1, by omega⟩
    obtain ⟨q, x, -, -, e3, e4⟩ := sg_s (h k' (by omega))
    rw [e4]
    exact fun e => e3 e.symm
  | succ i ih =>
    intro k h1 h2 e
    obtain ⟨k', rfl⟩ : ∃ k', k = k' + 1 := ⟨k - 1, by omega⟩
    obtain ⟨_, x, -, e2, -, e4⟩ := sg_s (h i (by omega))
    obtain ⟨_, x', -, e2', -, e4'⟩ := sg_s (h k' (by omega))
    rw [e4, e4'] at e
    have e : x = x' := e
    subst e
    exact ih k' (by omega) (by omega) ((dmr_lt e2).2.symm.trans (dmr_lt e2').2)
theorem sg_stop {T : Tn} {t a d0 z : Nat} (hn : T 0 0 ≤ 8) (ha : a < T 0 0) (hz : z < T 0 0) (hza : a ≠ z) (hd : d0 ≤ 28) : ∃ j, j < 7 ∧ (∀ l, l < j → sgG T t a d0 l = true ∧ (sgX T t a d0 (l + 1)).1 ≠ z) ∧ (sgG T t a d0 j = true → (sgX T t a d0 (j + 1)).1 = z) := by
  cases e : ff (fun j => !sgG T t a d0 j || (sgX T t a d0 (j + 1)).1 == z) 7 with
  | some j =>
    obtain ⟨h1, h2, h3⟩ := ff_some.mp e
    refine ⟨j, h1, fun l hl => ?_, fun q => ?_⟩
    · have := h3 l hl
      simp at this
      exact this
    · rw [q] at h2; simpa using h2
  | none =>
    have h := ff_none.mp e
    have hg : ∀ l, l < 7 → sgG T t a d0 l = true := fun l hl => by have := h l hl; simp at this; exact this.1
    have hz' : ∀ l, l < 7 → (sgX T t a d0 (l + 1)).1 ≠ z := fun l hl => by have := h l hl; simp at this; exact this.2
    obtain ⟨i, k, g1, g2, g3⟩ := php 8 (fun k => if k = 8 then z else (sgX T t a d0 k).1) (fun k hk => by
      show (if k = 8 then z else (sgX T t a d0 k).1) < 8
      by_cases q : k = 8
      · rw [if_pos q]; omega
      · rw [if_neg q]
        have := (sg_in ha hd k (fun l hl => hg l (by omega))).1
        omega)
    have g3 : (if i = 8 then z else (sgX T t a d0 i).1) = (if k = 8 then z else (sgX T t a d0 k).1) := g3
    rw [if_neg (by omega)] at g3
    by_cases q : k = 8
    · rw [if_pos q] at g3
      cases i with
      | zero => exact absurd g3 hza
      | succ i => exact absurd g3 (hz' i (by omega))
    · rw [if_neg q] at g3
      exact absurd g3 (sg_inj (j := 7) hg i k g1 (by omega))
theorem m1_ne : ∀ w, w < 28 → (-1 : Int32) ≠ nI w := by decide +kernel
theorem dI_eq {q w : Nat} (hq : q < 16) (hw : w < 8) : (dI q = nI w) = (q = w) := by
  unfold dI
  by_cases e : q = 15
  · rw [if_pos e]
    exact propext ⟨fun h => absurd h (m1_ne w (by omega)), fun h => by omega⟩
  · rw [if_neg e]
    exact nI_eq_i (by omega) (by omega)
theorem nI_m1 {w : Nat} (h : w < 28) : ¬ nI w = (-1 : Int32) := fun e => m1_ne w h e.symm
section CALLS
variable {b L : Nat} {xs : Nat → Int32} {X i c : Nat} {s : Sv} {μ : Mm}
theorem e_fwd {w d : Nat} (h : IC X i c s μ) (hw8 : w < 8) (hd : d ≤ 28) : f_X7_firstWakefulDay c (nI w) (nI d) μ = some (fo (fun k => nI (d + k)) (-1) (fw s.1 w d)) := by
  have hw := cb_w h.1
  obtain ⟨ok, ht, hct, -, -, h15⟩ := h.2.1
  have hst : ∀ k, k < 28 - d → f_X7_firstWakefulDay_L2 c (nI w) μ (nI (d + k)) = if dl s.1 w (d + k) then some (.inl (nI (d + (k + 1)))) else some (.inr (.inl (nI (d + k)))) := by
    intro k hk
    simp only [f_X7_firstWakefulDay_L2]
    rw [if_neg (by rw [show (28 : Int32) = nI 28 from rfl, nI_le_i (by omega) (by omega)]; omega), e_dullOn hw hct ok (by omega), ob, bmb hw8 (by decide), ob, nI_1]
    cases dl s.1 w (d + k) with
    | true => rw [if_neg (by decide), if_pos rfl]; rfl
    | false => rw [if_pos (by rfl), if_neg (by decide)]
  unfold f_X7_firstWakefulDay
  rw [if_pos (by rw [hw.1])]
  refine (whl_fb (28 - d) (fun k => nI (d + k)) (fun k => !dl s.1 w (d + k)) (fun k => .inl (nI (d + k))) (b := .inr ()) rfl (fun k hk hq => ?_) (fun k hk hq => ?_) ?_).trans ?_
  · rw [hst k hk, if_pos (by simpa using hq)]
  · rw [hst k hk, if_neg (by simpa using hq)]
  · simp only [f_X7_firstWakefulDay_L2]
    rw [if_pos (by rw [show (28 : Int32) = nI 28 from rfl]; exact nI_le (by omega) (by omega))]
  · unfold fw
    cases ff (fun k => !dl s.1 w (d + k)) (28 - d) <;> rfl
theorem dr_16 {T : Tn} {t p : Nat} (hp : p < 8) : dr T t p < 16 := by
  rw [← dr_nb hp]; exact nb_lt _ _
theorem e_dmrC {w : Nat} (h : IC X i c s μ) (hw8 : w < 8) : f_X10_dreamerOf X (nI w) μ = some (oI (dmr (s.1 0 0) (dr s.1 s.2.1) w)) := by
  have h1 := h.1.1
  have hw := cb_w h.1
  have hp := cb_p h.1
  obtain ⟨ok, ht, hct, -, -, h15⟩ := h.2.1
  have hn := ok.1.1
  have hst : ∀ p, p < s.1 0 0 → f_X10_dreamerOf_L2 X (nI w) μ (nI p) = if dr s.1 s.2.1 p = w then some (.inr (.inl (nI p))) else some (.inl (nI (p + 1))) := by
    intro p hp1
    simp only [f_X10_dreamerOf_L2]
    rw [hp, ob, ct_n hw hct, ob, if_neg (by rw [nI_le_i (by omega) (by omega)]; omega), rf_0 h1, ob, h15, e_dreamOf (cr_lt _ _) (by omega), ob, dr_nb (by omega), ob, nI_1]
    simp only [dI_eq (dr_16 (T := s.1) (t := s.2.1) (show p < 8 by omega)) hw8]
  unfold f_X10_dreamerOf
  rw [if_pos (by rw [mk_0 h1])]
  refine (whl_fb (s.1 0 0) (fun k => nI k) (fun p => dr s.1 s.2.1 p == w) (fun k => .inl (nI k)) (b := .inr ()) rfl (fun k hk hq => ?_) (fun k hk hq => ?_) ?_).trans ?_
  · rw [hst k hk, if_neg (by simpa using hq)]
  · rw [hst k hk, if_pos (by simpa using hq)]
  · simp only [f_X10_dreamerOf_L2]
    rw [hp, ob, ct_n hw hct, ob, if_pos (nI_le (Nat.le_refl _) (by omega))]
  · unfold dmr
    cases ff (fun p => dr s.1 s.2.1 p == w) (s.1 0 0) <;> rfl
theorem e_dmrR {w : Nat} (ok : OkT s.1) (ht : s.2.1 < (EN s.1).length) (hR : IR X s μ) (hw8 : w < 8) : f_X11_dreamer (X + 90) (nI w) μ = some (oI (dmr (s.1 0 0) (dr s.1 s.2.1) w)) := by
  have h1 := hR.1
  have hm := hR.2.1.1
  have hn := ok.1.1
  have hrd := fun p hp => dr_R ok ht p hp μ
  have hst : ∀ p, p < s.1 0 0 → f_X11_dreamer_L2 (X + 90) (nI w) μ (nI p) = if dr s.1 s.2.1 p = w then some (.inr (.inl (nI p))) else some (.inl (nI (p + 1))) := by
    intro p hp1
    simp only [f_X11_dreamer_L2]
    rw [rp_90_12 h1, ob, mr_n0 h1 hm, ob, if_neg (by rw [nI_le_i (by omega) (by omega)]; omega), rp_90_34 h1, ob, rf_90 h1, ob, hR.2.1.2.2.2.1, r_row h1 hR.2.1 ok ht, ob, hrd p hp1, ob, ob, nI_1]
    simp only [dI_eq (dr_16 (T := s.1) (t := s.2.1) (show p < 8 by omega)) hw8]
  unfold f_X11_dreamer
  rw [if_pos (by rw [mk_90 h1])]
  refine (whl_fb (s.1 0 0) (fun k => nI k) (fun p => dr s.1 s.2.1 p == w) (fun k => .inl (nI k)) (b := .inr ()) rfl (fun k hk hq => ?_) (fun k hk hq => ?_) ?_).trans ?_
  · rw [hst k hk, if_neg (by simpa using hq)]
  · rw [hst k hk, if_pos (by simpa using hq)]
  · simp only [f_X11_dreamer_L2]
    rw [rp_90_12 h1, ob, mr_n0 h1 hm, ob, if_pos (nI_le (Nat.le_refl _) (by omega))]
  · unfold dmr
    cases ff (fun p => dr s.1 s.2.1 p == w) (s.1 0 0) <;> rfl
theorem IC_16 {l : Nat} {v w : Int32} (h : IC X i c s μ) : IC X i c s (ms_I (ms_I μ (X + 16) l v) X 16 w) ∧ ChC X μ (ms_I (ms_I μ (X + 16) l v) X 16 w) := by
  refine ⟨IC_scr (by rfl) (by rfl) (fun q g1 g2 g3 => ?_) ?_ (fun _ _ _ _ => by rfl) h, ChC_t (ChC_I (by unfold inM; omega) (by omega)) (ChC_I (by unfold inM; omega) (by omega))⟩
  · rw [iI, if_neg g3, iI, if_neg (fun e => g1 (by unfold scr; omega))]
  · rw [rI, if_neg (by omega), rI, if_neg (by omega)]
theorem c_sg {a z w d l : Nat} (h : IC X i c s μ) (ha : a < s.1 0 0) (hz : z < s.1 0 0) (hw8 : w < s.1 0 0) (hd : d ≤ 28) (hl : l < 7) : f_X10_sendSign_L16 X (nI a) (nI z) (nI w, nI d, nI (l + 1), μ) = match fw s.1 w d with | none => some (.inr (.inl μ)) | some k => match dmr (s.1 0 0) (dr s.1 s.2.1) w with | none => some (.inr (.inl μ)) | some x => if x = a then some (.inr (.inl μ)) else if x = z then some (.inr (.inr (.inl (nI (d + k), ms_I (ms_I μ (X + 16) (l + 1) (nI x)) X 16 (nI (l + 2)))))) else some (.inl (nI x, nI (d + k + 1), nI (l + 2), ms_I (ms_I μ (X + 16) (l + 1) (nI x)) X 16 (nI (l + 2)))) := by
  have h1 := h.1.1
  have hp := cb_p h.1
  have hn := h.2.1.1.1.1
  simp only [f_X10_sendSign_L16]
  rw [rp_0_8 h1, ob, ln_16 h1, ob, if_neg (by rw [nI_le_i (by omega) (by omega)]; omega), hp, ob, e_fwd h (by omega) hd, ob, e_dmrC h (by omega), ob]
  cases e1 : fw s.1 w d with
  | none => exact if_pos rfl
  | some k =>
    have k1 := (fw_lt e1).1
    rw [show fo (fun k => nI (d + k)) (-1) (some k) = nI (d + k) from rfl, if_neg (nI_m1 k1)]
    cases e2 : dmr (s.1 0 0) (dr s.1 s.2.1) w with
    | none => exact if_pos rfl
    | some x =>
      have k2 := (dmr_lt e2).1
      rw [show oI (some x) = nI x from rfl, if_neg (nI_m1 (by omega)), ob, wa_16 h1 _ (by omega), ob, wf_0 (shI' h1 _ _ _), ob, ob, ob]
      simp only [nI_1]
      simp only [nI_eq_i (show x < 2 ^ 31 by omega) (show a < 2 ^ 31 by omega), nI_eq_i (show x < 2 ^ 31 by omega) (show z < 2 ^ 31 by omega)]
theorem c_send {a z d0 j : Nat} (h : IC X i c s μ) (ha : a < s.1 0 0) (hz : z < s.1 0 0) (hd : d0 ≤ 28) (hj : j < 7) (hs : ∀ l, l < j → sgG s.1 s.2.1 a d0 l = true ∧ (sgX s.1 s.2.1 a d0 (l + 1)).1 ≠ z) (hz' : sgG s.1 s.2.1 a d0 j = true → (sgX s.1 s.2.1 a d0 (j + 1)).1 = z) : ∃ ν, f_X10_sendSign X (nI a) (nI z) (nI d0) μ = some (if sgG s.1 s.2.1 a d0 j then nI ((sgX s.1 s.2.1 a d0 (j + 1)).2 - 1) else -1, ν) ∧ IC X i c s ν ∧ ChC X μ ν ∧ (sgG s.1 s.2.1 a d0 j = true → mm_I ν X 16 = nI (j + 2) ∧ ∀ l, l ≤ j + 1 → mm_I ν (X + 16) l = nI (sgX s.1 s.2.1 a d0 l).1) := by
  have h1 := h.1.1
  have hn := h.2.1.1.1.1
  unfold f_X10_sendSign
  rw [if_pos (by rw [mk_0 h1]), rp_0_8 h1, ob, show (0 : Int32) = nI 0 from rfl, wa_16 h1 _ (by omega), ob]
  have hI0 : IC X i c s (ms_I μ (X + 16) 0 (nI a)) ∧ ChC X μ (ms_I μ (X + 16) 0 (nI a)) := by
    refine ⟨IC_scr (by rfl) (by rfl) (fun q g1 g2 g3 => ?_) ?_ (fun _ _ _ _ => by rfl) h, ChC_I (by unfold inM; omega) (by omega)⟩
    · rw [iI, if_neg (fun e => g1 (by unfold scr; omega))]
    · rw [rI, if_neg (by omega)]
  have key := whl_i (body := f_X10_sendSign_L16 X (nI a) (nI z)) j (fun l (st : Int32 × Int32 × Int32 × Mm) => ∃ ν, st = (nI (sgX s.1 s.2.1 a d0 l).1, nI (sgX s.1 s.2.1 a d0 l).2, nI (l + 1), ν) ∧ IC X i c s ν ∧ ChC X μ ν ∧ ∀ k, k ≤ l → mm_I ν (X + 16) k = nI (sgX s.1 s.2.1 a d0 k).1) (Q := fun r => (sgG s.1 s.2.1 a d0 j = false ∧ ∃ ν, r = .inl ν ∧ IC X i c s ν ∧ ChC X μ ν) ∨ (sgG s.1 s.2.1 a d0 j = true ∧ ∃ ν, r = .inr (.inl (nI ((sgX s.1 s.2.1 a d0 (j + 1)).2 - 1), ν)) ∧ IC X i c s ν ∧ ChC X μ ν ∧ mm_I ν X 16 = nI (j + 2) ∧ ∀ l, l ≤ j + 1 → mm_I ν (X + 16) l = nI (sgX s.1 s.2.1 a d0 l).1)) (s0 := (nI a, nI d0, (1 : Int32), ms_I μ (X + 16) 0 (nI a))) ⟨_, rfl, hI0.1, hI0.2, fun k hk => by rw [rI, if_pos ⟨rfl, by omega⟩, show k = 0 by omega]; rfl⟩ ?_ ?_
  · obtain ⟨r, k1, k2⟩ := key
    rw [k1, ob]
    rcases k2 with ⟨e, ν, rfl, e1, e2⟩ | ⟨e, ν, rfl, e1, e2, e3, e4⟩
    · exact ⟨ν, by rw [e]; rfl, e1, e2, fun q => by rw [e] at q; cases q⟩
    · exact ⟨ν, by rw [e]; rfl, e1, e2, fun _ => ⟨e3, e4⟩⟩
  · rintro l st hl ⟨ν, rfl, e1, e2, e3⟩
    obtain ⟨g1, g2⟩ := hs l hl
    obtain ⟨w1, w2⟩ := sg_in ha hd l (fun l' hl' => (hs l' (by omega)).1)
    obtain ⟨k, x, f1, f2, f3, f4⟩ := sg_s g1
    rw [f4] at g2
    refine ⟨_, ?_, ms_I (ms_I ν (X + 16) (l + 1) (nI x)) X 16 (nI (l + 2)), rfl, (IC_16 e1).1, ChC_t e2 (IC_16 e1).2, fun k' hk' => ?_⟩
    · rw [c_sg e1 ha hz w1 w2 (by omega), f1, f2, f4]
      show (if x = a then _ else if x = z then _ else _) = _
      rw [if_neg f3, if_neg g2]
    · rw [rI, if_neg (by omega), rI]
      by_cases q : k' = l + 1
      · rw [if_pos ⟨rfl, q⟩, q, f4]
      · rw [if_neg (fun q' => q q'.2), e3 k' (by omega)]
  · rintro st ⟨ν, rfl, e1, e2, e3⟩
    obtain ⟨w1, w2⟩ := sg_in ha hd j (fun l' hl' => (hs l' (by omega)).1)
    rw [c_sg e1 ha hz w1 w2 hj]
    cases f1 : fw s.1 (sgX s.1 s.2.1 a d0 j).1 (sgX s.1 s.2.1 a d0 j).2 with
    | none => exact ⟨_, rfl, Or.inl ⟨by unfold sgG; rw [f1]; rfl, ν, rfl, e1, e2⟩⟩
    | some k =>
      cases f2 : dmr (s.1 0 0) (dr s.1 s.2.1) (sgX s.1 s.2.1 a d0 j).1 with
      | none => exact ⟨_, rfl, Or.inl ⟨by unfold sgG; rw [f1, f2]; rfl, ν, rfl, e1, e2⟩⟩
      | some x =>
        obtain ⟨f3, f4⟩ := sg_n f1 f2
        by_cases q : x = a
        · refine ⟨.inl ν, ?_, Or.inl ⟨by rw [f4, q]; simp, ν, rfl, e1, e2⟩⟩
          show (if x = a then _ else if x = z then _ else _) = _
          rw [if_pos q]
        · have g : sgG s.1 s.2.1 a d0 j = true := by rw [f4]; simpa using q
          have hx := hz' g
          rw [f3] at hx
          have hx : x = z := hx
          refine ⟨.inr (.inl (nI ((sgX s.1 s.2.1 a d0 j).2 + k), ms_I (ms_I ν (X + 16) (j + 1) (nI x)) X 16 (nI (j + 2)))), ?_, Or.inr ⟨g, _, by rw [f3]; rfl, (IC_16 e1).1, ChC_t e2 (IC_16 e1).2, ?_, fun k' hk' => ?_⟩⟩
          · show (if x = a then _ else if x = z then _ else _) = _
            rw [if_neg q, if_pos hx]
          · rw [rI, if_pos ⟨rfl, rfl⟩]
          · rw [rI, if_neg (by omega), rI]
            by_cases q : k' = j + 1
            · rw [if_pos ⟨rfl, q⟩, q, f3]
            · rw [if_neg (fun q' => q q'.2), e3 k' (by omega)]
theorem IR_60 {l : Nat} {v w : Int32} (h : IR X s μ) : IR X s (ms_I (ms_I μ (X + 126) l v) (X + 90) 60 w) ∧ ChM X μ (ms_I (ms_I μ (X + 126) l v) (X + 90) 60 w) := by
  refine ⟨IR_scr h.1 (fun k hk => ?_) (by rfl) (fun q g1 g2 g3 => ?_) (fun _ _ _ _ => by rfl) h, ChM_t (ChM_I (by unfold inM; omega)) (ChM_I (by unfold inM; omega))⟩
  · rw [rI, if_neg (fun e => by unfold fdM at hk; omega), rI, if_neg (by omega)]
  · rw [iI, if_neg g3, iI, if_neg (fun e => g2 (by unfold scM; omega))]
theorem r_sg {a z w d l : Nat} (ok : OkT s.1) (ht : s.2.1 < (EN s.1).length) (h : IR X s μ) (ha : a < s.1 0 0) (hz : z < s.1 0 0) (hw8 : w < s.1 0 0) (hd : d < 28) (hl : l < 7) (h60 : mm_I μ (X + 90) 60 = nI (l + 1)) : f_X11_saidTo_L18 (X + 90) (nI a) (nI z) (nI w, nI d, μ) = if dl s.1 w d then some (.inl (nI w, nI (d + 1), μ)) else match dmr (s.1 0 0) (dr s.1 s.2.1) w with | none => some (.inr (.inl μ)) | some x => if x = a then some (.inr (.inl μ)) else if x = z then some (.inr (.inr (.inl (nI d, ms_I (ms_I μ (X + 126) (l + 1) (nI x)) (X + 90) 60 (nI (l + 2)))))) else some (.inl (nI x, nI (d + 1), ms_I (ms_I μ (X + 126) (l + 1) (nI x)) (X + 90) 60 (nI (l + 2)))) := by
  have h1 := h.1
  have hn := ok.1.1
  have h37 : mm_I μ (X + 90) 37 = nI (bm (fun _ => false) 8) := by rw [← bm_0]; exact h.2.1.2.2.2.2.1
  simp only [f_X11_saidTo_L18, f_X11_saidTo_J95]
  rw [if_neg (by rw [show (28 : Int32) = nI 28 from rfl, nI_le_i (by omega) (by omega)]; omega), e_isDull h1 h.2.1.1 ok h37 (by omega) hd, ob, Bool.or_false]
  cases dl s.1 w d with
  | true => rw [if_neg (by decide), if_pos rfl, ob, nI_1]
  | false =>
    rw [if_pos (show nI false.toNat = 0 from rfl), if_neg (by decide), e_dmrR ok ht h (by omega), ob]
    cases e2 : dmr (s.1 0 0) (dr s.1 s.2.1) w with
    | none => exact if_pos rfl
    | some x =>
      have k2 := (dmr_lt e2).1
      have h60' : mm_I (ms_I μ (X + 126) (l + 1) (nI x)) (X + 90) 60 = nI (l + 1) := by rw [rI, if_neg (by omega), h60]
      rw [show oI (some x) = nI x from rfl, if_neg (nI_m1 (by omega)), rp_90_59 h1, ob, rf_90 h1, ob, h60, wa_126 h1 _ (by omega), ob, rf_90 (shI' h1 _ _ _), ob, h60', wf_90 (shI' h1 _ _ _), ob, ob]
      simp only [nI_1]
      simp only [nI_eq_i (show x < 2 ^ 31 by omega) (show a < 2 ^ 31 by omega), nI_eq_i (show x < 2 ^ 31 by omega) (show z < 2 ^ 31 by omega)]
theorem r_send {a z d0 j : Nat} (ok : OkT s.1) (ht : s.2.1 < (EN s.1).length) (h : IR X s μ) (ha : a < s.1 0 0) (hz : z < s.1 0 0) (hd : d0 ≤ 28) (hj : j < 7) (hs : ∀ l, l < j → sgG s.1 s.2.1 a d0 l = true ∧ (sgX s.1 s.2.1 a d0 (l + 1)).1 ≠ z) (hz' : sgG s.1 s.2.1 a d0 j = true → (sgX s.1 s.2.1 a d0 (j + 1)).1 = z) : ∃ ν, f_X11_saidTo (X + 90) (nI a) (nI z) (nI d0) μ = some (if sgG s.1 s.2.1 a d0 j then nI ((sgX s.1 s.2.1 a d0 (j + 1)).2 - 1) else -1, ν) ∧ IR X s ν ∧ ChM X μ ν ∧ (sgG s.1 s.2.1 a d0 j = true → mm_I ν (X + 90) 60 = nI (j + 2) ∧ ∀ l, l ≤ j + 1 → mm_I ν (X + 126) l = nI (sgX s.1 s.2.1 a d0 l).1) := by
  have h1 := h.1
  have hn := ok.1.1
  unfold f_X11_saidTo
  rw [if_pos (by rw [mk_90 h1]), wf_90 h1, ob, rp_90_59 (shI' h1 _ _ _), ob, show (0 : Int32) = nI 0 from rfl, wa_126 (shI' h1 _ _ _) _ (by omega), ob]
  have hI0 : IR X s (ms_I (ms_I μ (X + 90) 60 1) (X + 126) 0 (nI a)) ∧ ChM X μ (ms_I (ms_I μ (X + 90) 60 1) (X + 126) 0 (nI a)) := by
    refine ⟨IR_scr h.1 (fun k hk => ?_) (by rfl) (fun q g1 g2 g3 => ?_) (fun _ _ _ _ => by rfl) h, ChM_t (ChM_I (by unfold inM; omega)) (ChM_I (by unfold inM; omega))⟩
    · rw [rI, if_neg (by omega), rI, if_neg (fun e => by unfold fdM at hk; omega)]
    · rw [iI, if_neg (fun e => g2 (by unfold scM; omega)), iI, if_neg g3]
  have key := whl_e (body := f_X11_saidTo_L18 (X + 90) (nI a) (nI z)) (28 - d0) (fun m (st : Int32 × Int32 × Mm) => ∃ l ν, l ≤ j ∧ (sgX s.1 s.2.1 a d0 l).2 ≤ d0 + m ∧ (∀ dd, (sgX s.1 s.2.1 a d0 l).2 ≤ dd → dd < d0 + m → dl s.1 (sgX s.1 s.2.1 a d0 l).1 dd = true) ∧ st = (nI (sgX s.1 s.2.1 a d0 l).1, nI (d0 + m), ν) ∧ IR X s ν ∧ ChM X μ ν ∧ mm_I ν (X + 90) 60 = nI (l + 1) ∧ ∀ k, k ≤ l → mm_I ν (X + 126) k = nI (sgX s.1 s.2.1 a d0 k).1) (Q := fun r => (sgG s.1 s.2.1 a d0 j = false ∧ ∃ ν, (r = .inl ν ∨ r = .inr (.inr ν)) ∧ IR X s ν ∧ ChM X μ ν) ∨ (sgG s.1 s.2.1 a d0 j = true ∧ ∃ ν, r = .inr (.inl (nI ((sgX s.1 s.2.1 a d0 (j + 1)).2 - 1), ν)) ∧ IR X s ν ∧ ChM X μ ν ∧ mm_I ν (X + 90) 60 = nI (j + 2) ∧ ∀ l, l ≤ j + 1 → mm_I ν (X + 126) l = nI (sgX s.1 s.2.1 a d0 l).1)) (s0 := (nI a, nI d0, ms_I (ms_I μ (X + 90) 60 1) (X + 126) 0 (nI a))) ⟨0, _, Nat.zero_le _, Nat.le_refl _, fun dd g1 g2 => absurd g1 (Nat.not_le.mpr g2), rfl, hI0.1, hI0.2, by rw [rI, if_neg (by omega), rI, if_pos ⟨rfl, rfl⟩]; rfl, fun k hk => by rw [rI, if_pos ⟨rfl, by omega⟩, show k = 0 by omega]; rfl⟩ ?_ ?_
  · obtain ⟨r, k1, k2⟩ := key
    rw [k1, ob]
    rcases k2 with ⟨e, ν, rfl | rfl, e1, e2⟩ | ⟨e, ν, rfl, e1, e2, e3, e4⟩
    · exact ⟨ν, by rw [e]; rfl, e1, e2, fun q => by rw [e] at q; cases q⟩
    · exact ⟨ν, by rw [e]; rfl, e1, e2, fun q => by rw [e] at q; cases q⟩
    · exact ⟨ν, by rw [e]; rfl, e1, e2, fun _ => ⟨e3, e4⟩⟩
  · rintro m st hm ⟨l, ν, l1, l2, l3, rfl, e1, e2, e3, e4⟩
    obtain ⟨w1, w2⟩ := sg_in ha hd l (fun l' hl' => (hs l' (by omega)).1)
    rw [r_sg ok ht e1 ha hz w1 (by omega) (by omega) e3]
    cases ed : dl s.1 (sgX s.1 s.2.1 a d0 l).1 (d0 + m) with
    | true =>
      left
      refine ⟨_, if_pos rfl, l, ν, l1, by omega, fun dd g1 g2 => ?_, rfl, e1, e2, e3, e4⟩
      by_cases q : dd = d0 + m
      · rw [q]; exact ed
      · exact l3 dd g1 (by omega)
    | false =>
      have f1 : fw s.1 (sgX s.1 s.2.1 a d0 l).1 (sgX s.1 s.2.1 a d0 l).2 = some (d0 + m - (sgX s.1 s.2.1 a d0 l).2) := by
        apply ff_some.mpr
        refine ⟨by omega, ?_, fun q hq => ?_⟩
        · rw [show (sgX s.1 s.2.1 a d0 l).2 + (d0 + m - (sgX s.1 s.2.1 a d0 l).2) = d0 + m by omega, ed]; rfl
        · rw [l3 _ (by omega) (by omega)]; rfl
      rw [if_neg (by decide)]
      cases f2 : dmr (s.1 0 0) (dr s.1 s.2.1) (sgX s.1 s.2.1 a d0 l).1 with
      | none =>
        have gf : sgG s.1 s.2.1 a d0 l = false := by unfold sgG; rw [f1, f2]; rfl
        have hl : l = j := by
          by_cases q : l = j
          · exact q
          · rw [(hs l (by omega)).1] at gf; cases gf
        subst hl
        right
        exact ⟨_, rfl, Or.inl ⟨gf, ν, Or.inl rfl, e1, e2⟩⟩
      | some x =>
        obtain ⟨f3, f4⟩ := sg_n f1 f2
        have f3 : sgX s.1 s.2.1 a d0 (l + 1) = (x, d0 + m + 1) := by rw [f3]; congr 1; omega
        by_cases q : x = a
        · have gf : sgG s.1 s.2.1 a d0 l = false := by rw [f4, q]; simp
          have hl : l = j := by
            by_cases q : l = j
            · exact q
            · rw [(hs l (by omega)).1] at gf; cases gf
          subst hl
          right
          refine ⟨.inl ν, ?_, Or.inl ⟨gf, ν, Or.inl rfl, e1, e2⟩⟩
          show (if x = a then _ else if x = z then _ else _) = _
          rw [if_pos q]
        · have g : sgG s.1 s.2.1 a d0 l = true := by rw [f4]; simpa using q
          have hrow : ∀ k, k ≤ l + 1 → mm_I (ms_I (ms_I ν (X + 126) (l + 1) (nI x)) (X + 90) 60 (nI (l + 2))) (X + 126) k = nI (sgX s.1 s.2.1 a d0 k).1 := by
            intro k' hk'
            rw [rI, if_neg (by omega), rI]
            by_cases q : k' = l + 1
            · rw [if_pos ⟨rfl, q⟩, q, f3]
            · rw [if_neg (fun q' => q q'.2), e4 k' (by omega)]
          by_cases hl : l = j
          · subst hl
            have hx := hz' g
            rw [f3] at hx
            have hx : x = z := hx
            right
            refine ⟨.inr (.inl (nI (d0 + m), ms_I (ms_I ν (X + 126) (l + 1) (nI x)) (X + 90) 60 (nI (l + 2)))), ?_, Or.inr ⟨g, _, by rw [f3]; rfl, (IR_60 e1).1, ChM_t e2 (IR_60 e1).2, by rw [rI, if_pos ⟨rfl, rfl⟩], hrow⟩⟩
            show (if x = a then _ else if x = z then _ else _) = _
            rw [if_neg q, if_pos hx]
          · have hx := (hs l (by omega)).2
            rw [f3] at hx
            have hx : x ≠ z := hx
            left
            refine ⟨(nI x, nI (d0 + m + 1), ms_I (ms_I ν (X + 126) (l + 1) (nI x)) (X + 90) 60 (nI (l + 2))), ?_, l + 1, _, by omega, ?_, fun dd g1 g2 => ?_, by rw [f3]; rfl, (IR_60 e1).1, ChM_t e2 (IR_60 e1).2, by rw [rI, if_pos ⟨rfl, rfl⟩], hrow⟩
            · show (if x = a then _ else if x = z then _ else _) = _
              rw [if_neg q, if_neg hx]
            · rw [f3]; exact Nat.le_refl _
            · rw [f3] at g1
              have g1 : d0 + m + 1 ≤ dd := g1
              omega
  · rintro st ⟨l, ν, l1, l2, l3, rfl, e1, e2, e3, e4⟩
    obtain ⟨w1, w2⟩ := sg_in ha hd l (fun l' hl' => (hs l' (by omega)).1)
    have f1 : fw s.1 (sgX s.1 s.2.1 a d0 l).1 (sgX s.1 s.2.1 a d0 l).2 = none := by
      apply ff_none.mpr
      intro q hq
      rw [l3 _ (by omega) (by omega)]; rfl
    have gf : sgG s.1 s.2.1 a d0 l = false := by unfold sgG; rw [f1]; rfl
    have hl : l = j := by
      by_cases q : l = j
      · exact q
      · rw [(hs l (by omega)).1] at gf; cases gf
    subst hl
    refine ⟨.inr (.inr ν), ?_, Or.inl ⟨gf, ν, Or.inr rfl, e1, e2⟩⟩
    simp only [f_X11_saidTo_L18]
    rw [if_pos (by rw [show (28 : Int32) = nI 28 from rfl, nI_le_i (by omega) (by omega)]; omega)]
theorem r_isSign {p q d : Int32} (ok : OkT s.1) (h : IR X s μ) : f_X11_isSign (X + 90) p q d μ = some (bz (inR p (s.1 0 0) ∧ inR q (s.1 0 0) ∧ inR d 28)) := by
  unfold f_X11_isSign f_X11_isSign_J27
  rw [if_pos (by rw [mk_90 h.1]), r_isPerson h.1 h.2.1.1 ok, ob, bz_if, r_isPerson h.1 h.2.1.1 ok, ob, bz_if, r_isDay, ob, bz_if]
  unfold bz
  by_cases e1 : inR p (s.1 0 0)
  · by_cases e2 : inR q (s.1 0 0)
    · by_cases e3 : inR d 28
      · rw [if_pos e1, if_pos e2, if_pos e3, if_pos (show inR p (s.1 0 0) ∧ inR q (s.1 0 0) ∧ inR d 28 from ⟨e1, e2, e3⟩)]
      · rw [if_pos e1, if_pos e2, if_neg e3, if_neg (fun q => e3 q.2.2)]
    · rw [if_pos e1, if_neg e2, if_neg (fun q => e2 q.2.1)]
  · rw [if_neg e1, if_neg (fun q => e1 q.1)]
theorem k_said (p q d : Int32) (h0 : mm_K μ b = (19, L) ∧ mm_I μ b = xs ∧ b < X) (h : IC X i c s μ) (hR : IR X s μ) : ∃ r μ1 μ2, f_X10_said X p q d μ = some (r, μ1) ∧ f_X11_said (X + 90) p q d μ1 = some (r, μ2) ∧ Inv b L xs X (i + 1) μ2 ∧ (mm_K μ1 b = (19, L) ∧ mm_I μ1 b = xs) := by
  have h1 := h.1.1
  have ok := h.2.1.1
  have ht := h.2.1.2.1
  have hct := h.2.1.2.2.1
  have hn := ok.1.1
  have hR' : ∀ ν, IR X s ν → f_X11_said (X + 90) p q d ν = if inR p (s.1 0 0) ∧ inR q (s.1 0 0) ∧ inR d 28 then if p = q then some (-4, ν) else (f_X11_saidTo (X + 90) p q d ν).bind fun x29 => some (x29.1, x29.2) else some (-2, ν) := by
    intro ν hν
    unfold f_X11_said
    rw [if_pos (by rw [mk_90 hν.1]), r_isSign ok hν, ob, bz_if]
  have hC' : f_X10_said X p q d μ = if inR p (s.1 0 0) ∧ inR q (s.1 0 0) ∧ inR d 28 then if p = q then some (-4, μ) else (f_X10_sendSign X p q d μ).bind fun x46 => some (x46.1, x46.2) else some (-2, μ) := by
    unfold f_X10_said
    rw [if_pos (by rw [mk_0 h1]), cb_p h.1, ob, e_isPerson' (cb_w h.1) hct ok, ob, bz_if, ob, e_isPerson' (cb_w h.1) hct ok, ob, bz_if, c_isDay, ob, bz_if]
    by_cases e1 : inR p (s.1 0 0)
    · by_cases e2 : inR q (s.1 0 0)
      · by_cases e3 : inR d 28
        · rw [if_pos e1, if_pos e2, if_pos e3, if_pos (show inR p (s.1 0 0) ∧ inR q (s.1 0 0) ∧ inR d 28 from ⟨e1, e2, e3⟩)]
        · rw [if_pos e1, if_pos e2, if_neg e3, if_neg (fun q => e3 q.2.2)]
      · rw [if_pos e1, if_neg e2, if_neg (fun q => e2 q.2.1)]
    · rw [if_neg e1, if_neg (fun q => e1 q.1)]
  by_cases ea : inR p (s.1 0 0) ∧ inR q (s.1 0 0) ∧ inR d 28
  · rw [if_pos ea] at hC'
    by_cases eq : p = q
    · rw [if_pos eq] at hC'
      exact both h0 hR hC' (IC_up h) (ChC_r _ _) (fun hν => ⟨_, by rw [hR' _ hν, if_pos ea, if_pos eq], hν, ChM_r _ _⟩)
    · rw [if_neg eq] at hC'
      obtain ⟨⟨a, ha, rfl⟩, ⟨z, hz, rfl⟩, ⟨d0, hd, rfl⟩⟩ := And.intro (inR_ex ea.1 (by omega)) (And.intro (inR_ex ea.2.1 (by omega)) (inR_ex ea.2.2 (by decide)))
      obtain ⟨j, hj, hs, hz'⟩ := sg_stop (t := s.2.1) (d0 := d0) hn ha hz (fun e => eq (by rw [e])) (by omega)
      obtain ⟨ν, n1, n2, n3, -⟩ := c_send h ha hz (by omega) hj hs hz'
      rw [n1, ob] at hC'
      refine both h0 hR hC' (IC_up n2) n3 (fun hν => ?_)
      obtain ⟨π, m1, m2, m3, -⟩ := r_send ok ht hν ha hz (by omega) hj hs hz'
      exact ⟨π, by rw [hR' _ hν, if_pos ea, if_neg eq, m1, ob], m2, m3⟩
  · rw [if_neg ea] at hC'
    exact both h0 hR hC' (IC_up h) (ChC_r _ _) (fun hν => ⟨_, by rw [hR' _ hν, if_neg ea], hν, ChM_r _ _⟩)
theorem k_over (p q d m : Int32) (h0 : mm_K μ b = (19, L) ∧ mm_I μ b = xs ∧ b < X) (h : IC X i c s μ) (hR : IR X s μ) : ∃ r μ1 μ2, f_X10_over X p q d m μ = some (r, μ1) ∧ f_X11_over (X + 90) p q d m μ1 = some (r, μ2) ∧ Inv b L xs X (i + 1) μ2 ∧ (mm_K μ1 b = (19, L) ∧ mm_I μ1 b = xs) := by
  have h1 := h.1.1
  have ok := h.2.1.1
  have ht := h.2.1.2.1
  have hct := h.2.1.2.2.1
  have hn := ok.1.1
  have hR' : ∀ ν, IR X s ν → f_X11_over (X + 90) p q d m ν = if inR p (s.1 0 0) ∧ inR q (s.1 0 0) ∧ inR d 28 then if 0 ≤ m then if p = q then some (-4, ν) else (f_X11_saidTo (X + 90) p q d ν).bind fun x30 => if x30.1 = (-1 : Int32) then f_X11_over_J46 x30.2 else (gf_I 12 60 (X + 90) x30.2).bind fun x40 => if m < x40 then (gf_P 12 59 (X + 90) x30.2).bind fun x51 => (ga_I x51 m x30.2).bind fun x56 => some (x56, x30.2) else f_X11_over_J46 x30.2 else some (-2, ν) else some (-2, ν) := by
    intro ν hν
    unfold f_X11_over
    rw [if_pos (by rw [mk_90 hν.1]), r_isSign ok hν, ob, bz_if]
  have hC' : f_X10_over X p q d m μ = if inR p (s.1 0 0) ∧ inR q (s.1 0 0) ∧ inR d 28 then if 0 ≤ m then if p = q then some (-4, μ) else (f_X10_sendSign X p q d μ).bind fun x49 => if x49.1 = (-1 : Int32) then some ((-1 : Int32), x49.2) else (gf_I 11 16 X x49.2).bind fun x59 => if x59 ≤ m then some ((-1 : Int32), x49.2) else (gf_P 11 8 X x49.2).bind fun x68 => (ga_len x68 x49.2).bind fun x71 => if m < x71 then (gf_P 11 8 X x49.2).bind fun x78 => (ga_I x78 m x49.2).bind fun x83 => some (x83, x49.2) else some ((-1 : Int32), x49.2) else some (-2, μ) else some (-2, μ) := by
    unfold f_X10_over
    rw [if_pos (by rw [mk_0 h1]), cb_p h.1, ob, e_isPerson' (cb_w h.1) hct ok, ob, bz_if, ob, e_isPerson' (cb_w h.1) hct ok, ob, bz_if, c_isDay, ob, bz_if]
    by_cases e1 : inR p (s.1 0 0)
    · by_cases e2 : inR q (s.1 0 0)
      · by_cases e3 : inR d 28
        · rw [if_pos e1, if_pos e2, if_pos e3, if_pos (show inR p (s.1 0 0) ∧ inR q (s.1 0 0) ∧ inR d 28 from ⟨e1, e2, e3⟩)]
        · rw [if_pos e1, if_pos e2, if_neg e3, if_neg (fun q => e3 q.2.2)]
      · rw [if_pos e1, if_neg e2, if_neg (fun q => e2 q.2.1)]
    · rw [if_neg e1, if_neg (fun q => e1 q.1)]
  by_cases ea : inR p (s.1 0 0) ∧ inR q (s.1 0 0) ∧ inR d 28
  · rw [if_pos ea] at hC'
    by_cases em : 0 ≤ m
    · rw [if_pos em] at hC'
      by_cases eq : p = q
      · rw [if_pos eq] at hC'
        exact both h0 hR hC' (IC_up h) (ChC_r _ _) (fun hν => ⟨_, by rw [hR' _ hν, if_pos ea, if_pos em, if_pos eq], hν, ChM_r _ _⟩)
      · rw [if_neg eq] at hC'
        obtain ⟨⟨a, ha, rfl⟩, ⟨z, hz, rfl⟩, ⟨d0, hd, rfl⟩⟩ := And.intro (inR_ex ea.1 (by omega)) (And.intro (inR_ex ea.2.1 (by omega)) (inR_ex ea.2.2 (by decide)))
        obtain ⟨j, hj, hs, hz'⟩ := sg_stop (t := s.2.1) (d0 := d0) hn ha hz (fun e => eq (by rw [e])) (by omega)
        obtain ⟨ν, n1, n2, n3, n4⟩ := c_send h ha hz (by omega) hj hs hz'
        have h1ν := n2.1.1
        rw [n1, ob] at hC'
        cases eg : sgG s.1 s.2.1 a d0 j with
        | false =>
          rw [eg] at hC' n1
          have hC' := hC'.trans (if_pos rfl)
          refine both h0 hR hC' (IC_up n2) n3 (fun hν => ?_)
          obtain ⟨π, m1, m2, m3, -⟩ := r_send ok ht hν ha hz (by omega) hj hs hz'
          exact ⟨π, by rw [hR' _ hν, if_pos ea, if_pos em, if_neg eq, m1, ob, eg]; exact if_pos rfl, m2, m3⟩
        | true =>
          obtain ⟨n5, n6⟩ := n4 eg
          have hday : (sgX s.1 s.2.1 a d0 (j + 1)).2 - 1 < 28 := by
            obtain ⟨k, x, f1, f2, f3, f4⟩ := sg_s eg
            have := (fw_lt f1).1
            rw [f4]; show _ + _ + 1 - 1 < 28; omega
          rw [eg, if_pos rfl, if_neg (nI_m1 hday), rf_0 h1ν, ob, n5, rp_0_8 h1ν, ob, ln_16 h1ν, ob] at hC'
          have hRf : ∀ ν', IR X s ν' → ∃ π, f_X11_over (X + 90) (nI a) (nI z) (nI d0) m ν' = (if m < nI (j + 2) then (ga_I (X + 126) m π).bind fun x56 => some (x56, π) else some (-1, π)) ∧ IR X s π ∧ ChM X ν' π ∧ ∀ l, l ≤ j + 1 → mm_I π (X + 126) l = nI (sgX s.1 s.2.1 a d0 l).1 := by
            intro ν' hν
            obtain ⟨π, m1, m2, m3, m4⟩ := r_send ok ht hν ha hz (by omega) hj hs hz'
            obtain ⟨m5, m6⟩ := m4 eg
            refine ⟨π, ?_, m2, m3, m6⟩
            rw [hR' _ hν, if_pos ea, if_pos em, if_neg eq, m1, ob, eg, if_pos rfl, if_neg (nI_m1 hday), rf_90 m2.1, ob, m5, rp_90_59 m2.1, ob]
            rfl
          by_cases e5 : m < nI (j + 2)
          · obtain ⟨l, hl, rfl⟩ := inR_ex (p := m) (n := j + 2) ⟨by simpa using Int32.le_iff_toInt_le.mp em, by have := Int32.lt_iff_toInt_lt.mp e5; rwa [nI_toInt (by omega)] at this⟩ (by omega)
            rw [if_neg (Int32.not_le.mpr e5), if_pos (by rw [nI_lt_i (by omega) (by omega)]; omega), ob, ra_16 h1ν (by omega), ob, n6 l (by omega)] at hC'
            refine both h0 hR hC' (IC_up n2) n3 (fun hν => ?_)
            obtain ⟨π, p1, p2, p3, p4⟩ := hRf _ hν
            exact ⟨π, by rw [p1, if_pos e5, ra_126 p2.1 (by omega), ob, p4 l (by omega)], p2, p3⟩
          · rw [if_pos (Int32.not_lt.mp e5)] at hC'
            refine both h0 hR hC' (IC_up n2) n3 (fun hν => ?_)
            obtain ⟨π, p1, p2, p3, p4⟩ := hRf _ hν
            exact ⟨π, by rw [p1, if_neg e5], p2, p3⟩
    · rw [if_neg em] at hC'
      exact both h0 hR hC' (IC_up h) (ChC_r _ _) (fun hν => ⟨_, by rw [hR' _ hν, if_pos ea, if_neg em], hν, ChM_r _ _⟩)
  · rw [if_neg ea] at hC'
    exact both h0 hR hC' (IC_up h) (ChC_r _ _) (fun hν => ⟨_, by rw [hR' _ hν, if_neg ea], hν, ChM_r _ _⟩)
end CALLS
