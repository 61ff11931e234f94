/-! ===== the best question: the reference chooses; both ===== -/
def plA (o : Option Nat) : Int32 := match o with
  | none => -1
  | some j => nI j
theorem askS_j {T : Tn} {A : Nat → Nat → Nat} : ∀ n j, (askS T A n).2 = some j → j < n := by
  intro n
  induction n with
  | zero => intro j h; cases h
  | succ n ih =>
    intro j h
    replace h : (if n / 28 / 12 < T 0 0 ∧ n / 28 % 12 < T 0 1 ∧ max (askN T A n) (cntb (fits T A 999) (EN T).length - askN T A n) < (askS T A n).1 then (max (askN T A n) (cntb (fits T A 999) (EN T).length - askN T A n), some n) else askS T A n).2 = some j := h
    split at h
    · have : n = j := Option.some.inj h
      omega
    · have := ih j h
      omega
section ASKR
variable {b L : Nat} {xs : Nat → Int32} {X i c : Nat} {s : Sv} {μ ν π : Mm} {A : Nat → Nat → Nat}
theorem r_a60 {p f : Nat} {l1 : Int32} (h : IR X s π) (ok : OkT s.1) (hp : p < s.1 0 0) (hf : f < s.1 0 1) (hc : ∀ j, j < 2688 → j / 28 / 12 < s.1 0 0 → j / 28 % 12 < s.1 0 1 → mm_I π (X + 125) j = nI (askN s.1 A j)) : whl (f_X11_ask_L60 (X + 90) l1 (nI (cntb (fits s.1 A 999) (EN s.1).length)) (nI p) (nI f) π) (nI (askS s.1 A (28 * (12 * p + f))).1, plA (askS s.1 A (28 * (12 * p + f))).2, (0 : Int32)) = some (nI (askS s.1 A (28 * (12 * p + (f + 1)))).1, plA (askS s.1 A (28 * (12 * p + (f + 1)))).2) := by
  have n8 := ok.1.1
  have n12 := ok.1.2.1
  have hl := EN_len ok
  have fl := flt_n (fits s.1 A 999) (EN s.1).length
  have cl := cntb_le (fits s.1 A 999) (EN s.1).length
  refine whl_c 28 (fun day => (nI (askS s.1 A (28 * (12 * p + f) + day)).1, plA (askS s.1 A (28 * (12 * p + f) + day)).2, nI day)) rfl (fun day hd => ?_) ?_
  · have eN := askN_e (T := s.1) (A := A) (p := p) (f := f) (day := day) (by omega) hd
    have cb := cu_le (mpx s.1 f p) (flt (fits s.1 A 999) (EN s.1).length) (2 * day + 1)
    rw [← eN, fl] at cb
    have sb := askS_b (T := s.1) (A := A) (28 * (12 * p + f) + day)
    have eS := askS_s (T := s.1) (A := A) (28 * (12 * p + f) + day) ⟨by omega, by omega⟩
    have cell := hc (28 * (12 * p + f) + day) (by omega) (by omega) (by omega)
    simp only [f_X11_ask_L60, f_X11_ask_J106, f_X11_ask_J136]
    rw [if_neg (by rw [show (28 : Int32) = nI 28 from rfl, nI_le_i (by omega) (by omega)]; omega), rp_90_58 h.1, ob, r_ix, ra_125 h.1 (by omega), ob, show (12 * p + f) * 28 + day = 28 * (12 * p + f) + day by omega, cell, pk_sub (by omega)]
    rw [← Nat.add_assoc, eS]
    generalize askN s.1 A (28 * (12 * p + f) + day) = C at cb eN cell eS ⊢
    generalize cntb (fits s.1 A 999) (EN s.1).length = N at fl cl cb sb eS ⊢
    simp only [ob, nI_1]
    by_cases w : C ≤ N - C
    · rw [if_pos (by rw [nI_le_i (by omega) (by omega)]; exact w), Nat.max_eq_right w]
      by_cases y : N - C < (askS s.1 A (28 * (12 * p + f) + day)).1
      · rw [if_pos (by rw [nI_lt_i (by omega) (by omega)]; exact y), if_pos y]
        rfl
      · rw [if_neg (by rw [nI_lt_i (by omega) (by omega)]; exact y), if_neg y]
    · rw [if_neg (by rw [nI_le_i (by omega) (by omega)]; exact w), Nat.max_eq_left (by omega)]
      by_cases y : C < (askS s.1 A (28 * (12 * p + f) + day)).1
      · rw [if_pos (by rw [nI_lt_i (by omega) (by omega)]; exact y), if_pos y]
        rfl
      · rw [if_neg (by rw [nI_lt_i (by omega) (by omega)]; exact y), if_neg y]
  · simp only [f_X11_ask_L60]
    rw [if_pos (show (28 : Int32) ≤ nI 28 from nI_le (Nat.le_refl 28) (by decide))]
    rfl
theorem r_a46 {p : Nat} {l1 : Int32} (h : IR X s π) (ok : OkT s.1) (hp : p < s.1 0 0) (hc : ∀ j, j < 2688 → j / 28 / 12 < s.1 0 0 → j / 28 % 12 < s.1 0 1 → mm_I π (X + 125) j = nI (askN s.1 A j)) : whl (f_X11_ask_L46 (X + 90) l1 (nI (cntb (fits s.1 A 999) (EN s.1).length)) (nI p) π) (nI (askS s.1 A (28 * (12 * p))).1, plA (askS s.1 A (28 * (12 * p))).2, (0 : Int32)) = some (nI (askS s.1 A (28 * (12 * (p + 1)))).1, plA (askS s.1 A (28 * (12 * (p + 1)))).2) := by
  have n8 := ok.1.1
  have n12 := ok.1.2.1
  have sk : askS s.1 A (28 * (12 * (p + 1))) = askS s.1 A (28 * (12 * p + s.1 0 1)) := by
    have := askS_k (T := s.1) (A := A) (a := 28 * (12 * p + s.1 0 1)) (28 * (12 - s.1 0 1)) (fun j h1 h2 => by omega)
    rw [← this]
    congr 1; omega
  refine whl_c (s.1 0 1) (fun f => (nI (askS s.1 A (28 * (12 * p + f))).1, plA (askS s.1 A (28 * (12 * p + f))).2, nI f)) rfl (fun f hf => ?_) ?_
  · have k := r_a60 (l1 := l1) h ok hp hf hc
    simp only [f_X11_ask_L46, f_X11_ask_J142]
    rw [rp_90_12 h.1, ob, mr_n1 h.1 h.2.1.1, ob, if_neg (by rw [nI_le_i (by omega) (by omega)]; omega), k, ob, ob, nI_1]
  · simp only [f_X11_ask_L46]
    rw [rp_90_12 h.1, ob, mr_n1 h.1 h.2.1.1, ob, if_pos (nI_le (Nat.le_refl _) (by omega)), sk]
theorem r_a32 {l1 : Int32} (h : IR X s π) (ok : OkT s.1) (hc : ∀ j, j < 2688 → j / 28 / 12 < s.1 0 0 → j / 28 % 12 < s.1 0 1 → mm_I π (X + 125) j = nI (askN s.1 A j)) : whl (f_X11_ask_L32 (X + 90) l1 (nI (cntb (fits s.1 A 999) (EN s.1).length)) π) (nI (cntb (fits s.1 A 999) (EN s.1).length), (-1 : Int32), (0 : Int32)) = some (plA (askS s.1 A 2688).2) := by
  have n8 := ok.1.1
  have sk : askS s.1 A 2688 = askS s.1 A (28 * (12 * s.1 0 0)) := by
    have := askS_k (T := s.1) (A := A) (a := 28 * (12 * s.1 0 0)) (336 * (8 - s.1 0 0)) (fun j h1 h2 => by omega)
    rw [← this]
    congr 1; omega
  refine whl_c (s.1 0 0) (fun p => (nI (askS s.1 A (28 * (12 * p))).1, plA (askS s.1 A (28 * (12 * p))).2, nI p)) rfl (fun p hp => ?_) ?_
  · have k := r_a46 (l1 := l1) h ok hp hc
    simp only [f_X11_ask_L32, f_X11_ask_J148]
    rw [rp_90_12 h.1, ob, mr_n0 h.1 h.2.1.1, ob, if_neg (by rw [nI_le_i (by omega) (by omega)]; omega), k, ob, ob, nI_1]
  · simp only [f_X11_ask_L32]
    rw [rp_90_12 h.1, ob, mr_n0 h.1 h.2.1.1, ob, if_pos (nI_le (Nat.le_refl _) (by omega)), sk]
theorem r_a154 {w : Nat} {o : Option Nat} (hw : w < 3) (ho : ∀ j, o = some j → j < 2688) : f_X11_ask_J154 (nI w) (plA o) π = some (oA o w, π) := by
  unfold f_X11_ask_J154
  cases o with
  | none => exact if_pos rfl
  | some j =>
    have hj := ho j rfl
    show (if nI j = (-1 : Int32) then _ else _) = some (nI _, π)
    have d1 : nI j / (28 : Int32) = nI (j / 28) := pk_div (by omega) (by decide) (by decide)
    have d2 : nI (j / 28) / (12 : Int32) = nI (j / 28 / 12) := pk_div (by omega) (by decide) (by decide)
    have d3 : nI (j / 28 / 12) * (12 : Int32) = nI (j / 28 / 12 * 12) := pk_mul _ 12
    have d4 : nI (j / 28) * (28 : Int32) = nI (j / 28 * 28) := pk_mul _ 28
    rw [if_neg (neg1_ne (by omega))]
    show (if nI w = 0 then some ((nI j / (28 : Int32)) / (12 : Int32), π) else if nI w = (1 : Int32) then some ((nI j / (28 : Int32)) - (nI j / (28 : Int32)) / (12 : Int32) * (12 : Int32), π) else some (nI j - nI j / (28 : Int32) * (28 : Int32), π)) = _
    rw [d1, d2, d3, d4, pk_sub (by omega), pk_sub (by omega)]
    by_cases w0 : w = 0
    · rw [if_pos (by rw [w0]; rfl), if_pos w0]
    · rw [if_neg (by rw [nI_z (by omega)]; exact w0), if_neg w0]
      by_cases w1 : w = 1
      · rw [if_pos (by rw [w1]; rfl), if_pos w1]
        congr 3; omega
      · rw [if_neg (by rw [show (1 : Int32) = nI 1 from rfl, nI_eq_i (by omega) (by omega)]; exact w1), if_neg w1]
        congr 3; omega
theorem k_ask (a1 : Int32) (h0 : mm_K μ b = (19, L) ∧ mm_I μ b = xs ∧ b < X) (h : IC X i c s μ) (hR : IR X s μ) : ∃ r μ1 μ2, f_X10_ask X a1 μ = some (r, μ1) ∧ f_X11_ask (X + 90) a1 μ1 = some (r, μ2) ∧ Inv b L xs X (i + 1) μ2 ∧ (mm_K μ1 b = (19, L) ∧ mm_I μ1 b = xs) := by
  have h1 := h.1.1
  have ok := h.2.1.1
  obtain ⟨oa, -⟩ := h.2.2.2.2.1
  by_cases e : inR a1 3
  · obtain ⟨w, hw, rfl⟩ := inR_ex e (by omega)
    obtain ⟨ν, c1, c2, c3, c4, c5, c6⟩ := c_choose h
    have g := c2.1.1
    have hx : f_X10_ask X (nI w) μ = some (askI s.1 s.2.2.2.2.2.1 w, ν) := by
      unfold f_X10_ask
      rw [if_pos (by rw [mk_0 h1]), if_neg (nI_pos (by omega)), if_pos (by rw [show (2 : Int32) = nI 2 from rfl, nI_le_i (by omega) (by omega)]; omega), rp_0_5 h1, ob, c1, ob, rp_0_5 g]
      simp only [ob, rf_66 g]
      rcases (by omega : w = 0 ∨ w = 1 ∨ w = 2) with y | y | y
      · rw [y, c4]; rfl
      · rw [y, c5]; rfl
      · rw [y, c6]; rfl
    refine both h0 hR hx (IC_up c2) c3 (fun hν => ?_)
    obtain ⟨π, p1, p2, p3⟩ := r_find (st := 999) hν ok oa (by omega)
    obtain ⟨ir, ch⟩ := IR_k hν p2
    obtain ⟨π2, q1, q2, q3⟩ := r_count ir ok p3
    obtain ⟨ir2, ch2⟩ := IR_k ir q2
    refine ⟨π2, ?_, ir2, ChM_t ch ch2⟩
    unfold f_X11_ask
    rw [if_pos (by rw [mk_90 hν.1]), e_in, ob, bz_if, if_pos ⟨by rw [show (0 : Int32) = nI 0 from rfl, nI_le_i (by omega) (by omega)]; omega, by rw [show (2 : Int32) = nI 2 from rfl, nI_le_i (by omega) (by omega)]; omega⟩, show f_X11_findFits (X + 90) (999 : Int32) ν = _ from p1, ob, q1, ob, r_a32 ir2 ok q3, ob, r_a154 hw (fun j hj => askS_j 2688 j hj)]
    rfl
  · refine both h0 hR (r := -2) (μ1 := μ) ?_ (IC_up h) (ChC_r _ _) (fun hν => ⟨_, ?_, hν, ChM_r _ _⟩)
    · unfold f_X10_ask
      rw [if_pos (by rw [mk_0 h1])]
      by_cases w : a1 < 0
      · rw [if_pos w]
      · rw [if_neg w, if_neg (fun y => e ?_)]
        rw [lt0] at w
        rw [show (2 : Int32) = nI 2 from rfl, nI_le' (by decide)] at y
        exact ⟨by omega, by omega⟩
    · unfold f_X11_ask
      rw [if_pos (by rw [mk_90 hν.1]), e_in, ob, bz_if, if_neg (fun y => e ?_)]
      rw [show (0 : Int32) = nI 0 from rfl, show (2 : Int32) = nI 2 from rfl, le_nI (by decide), nI_le' (by decide)] at y
      exact ⟨by omega, by omega⟩
end ASKR
