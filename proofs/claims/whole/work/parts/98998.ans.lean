/-! ===== the class's census: its answers ===== -/
/-- the latest moment -/
def mxm (T : Tn) (d : Nat → Nat) (f : Nat) : Nat → Nat
  | 0 => 0
  | n + 1 => max (mxm T d f n) (momp T d f n)
theorem mxm_le {T : Tn} {d : Nat → Nat} {f m : Nat} : ∀ {n : Nat}, mxm T d f n ≤ m ↔ ∀ p, p < n → momp T d f p ≤ m := by
  intro n
  induction n with
  | zero => exact ⟨fun _ p hp => by omega, fun _ => Nat.zero_le _⟩
  | succ n ih =>
    show max (mxm T d f n) (momp T d f n) ≤ m ↔ _
    rw [Nat.max_le, ih]
    constructor
    · rintro ⟨h1, h2⟩ p hp
      by_cases e : p = n
      · rw [e]; exact h2
      · exact h1 p (by omega)
    · exact fun h => ⟨fun p hp => h p (by omega), h n (by omega)⟩
theorem mxm_255 {T : Tn} {d : Nat → Nat} {f n : Nat} : mxm T d f n ≤ 255 := mxm_le.mpr (fun p _ => by have := momp_256 T d f p; omega)
def dyA (T : Tn) (d : Nat → Nat) (f : Nat) : Nat := (c_all T d w7 f).getD 28
theorem dyA_le (T : Tn) (d : Nat → Nat) (f : Nat) : dyA T d f ≤ 28 := by
  unfold dyA
  cases e : c_all T d w7 f with
  | none => exact Nat.le_refl _
  | some j => exact Nat.le_of_lt (ff_some.mp e).1
theorem mxm_d {T : Tn} {d : Nat → Nat} {f : Nat} : min (mxm T d f (T 0 0) / 2) 28 = dyA T d f := by
  have key : ∀ day, day < 28 → (mxm T d f (T 0 0) ≤ 2 * day + 1 ↔ allb (T 0 0) (c_beh T d w7 u0 f (day + 1)) = true) := by
    intro day hd
    rw [mxm_le, allb_t]
    exact ⟨fun h p hp => (momp_b hd).mp (h p hp), fun h p hp => (momp_b hd).mpr (h p hp)⟩
  unfold dyA
  cases e : c_all T d w7 f with
  | none =>
    have h : ¬ mxm T d f (T 0 0) ≤ 2 * 27 + 1 := fun y => by
      have a := (key 27 (by decide)).mp y
      have b := ff_none.mp e 27 (by decide)
      rw [a] at b; cases b
    show _ = 28
    omega
  | some j =>
    obtain ⟨h1, h2, h3⟩ := ff_some.mp e
    have a1 := (key j h1).mpr h2
    show _ = j
    by_cases z : j = 0
    · omega
    · have : ¬ mxm T d f (T 0 0) ≤ 2 * (j - 1) + 1 := fun y => by
        have a := (key (j - 1) (by omega)).mp y
        have b := h3 (j - 1) (by omega)
        rw [a] at b; cases b
      omega
section CEN
variable {X i c : Nat} {s : Sv} {μ ν ρ : Mm} {T : Tn} {A : Nat → Nat → Nat}
variable {Rw Ft nr sz fo : Nat} {Ml Ln : Nat → Nat}
theorem e_know {f t day : Nat} (h : IC X i c s μ) (z : Cz X s.1 Rw Ft nr sz fo Ml Ln μ) (hf : fo.testBit f = true) (ht : t < (EN s.1).length) (hd : day < 28) : f_X1_knowingBehind (X + 66) (nI f) (nI t) (nI day) μ = some (nI (bm (fun p => decide (p < s.1 0 0) && c_beh s.1 (dr s.1 t) w7 u0 f (day + 1) p) 8)) := by
  have ok := h.2.1.1
  have n8 := ok.1.1
  have h1 := h.1.1
  have hc : c = X + 21 ∨ c = X + 39 := by have := h.1.2.1; omega
  have hT := tws_c h1 hc
  have f12 := cz_12 z hf
  unfold f_X1_knowingBehind
  rw [if_pos (by rw [mk_66 h1]), e_line h1 z f12, ob]
  have key : whl (f_X1_knowingBehind_L13 (X + 66) (nI t) (nI day) (Ml f) μ) ((0 : Int32), (0 : Int32)) = some (nI (bm (fun p => decide (p < s.1 0 0) && c_beh s.1 (dr s.1 t) w7 u0 f (day + 1) p) 8)) := by
    refine whl_c (s.1 0 0) (fun k => (nI (bm (fun p => decide (p < k) && c_beh s.1 (dr s.1 t) w7 u0 f (day + 1) p) 8), nI k)) ?_ (fun k hk => ?_) ?_
    · have : bm (fun p => decide (p < 0) && c_beh s.1 (dr s.1 t) w7 u0 f (day + 1) p) 8 = 0 := by
        rw [bm_z]
        intro i _
        rw [decide_eq_false (by omega), Bool.false_and]
      rw [this]; rfl
    · have mb := momp_b (T := s.1) (d := dr s.1 t) (f := f) (p := k) hd
      have ml := momp_256 s.1 (dr s.1 t) f k
      simp only [f_X1_knowingBehind_L13, f_X1_knowingBehind_J50]
      rw [e_gfP (by rw [mk_66 h1]) h.1.2.2.2, ob, ct_n hT h.2.1.2.2.1, ob, if_neg (by rw [nI_le_i (by omega) (by omega)]; omega), z_mom z hf ht (by omega), ob, show (2 : Int32) * nI day = nI (2 * day) from pk_mul 2 day, nI_1, ob, ob, b_one (by omega), nI_or, nI_1]
      cases ec : c_beh s.1 (dr s.1 t) w7 u0 f (day + 1) k with
      | true =>
        have := mb.mpr ec
        rw [if_neg (by rw [nI_lt_i (by omega) (by omega)]; omega), bm_set _ (by omega), ob]
        congr 4
        apply bm_x
        intro p hp
        by_cases w : p = k
        · rw [w, ec, decide_eq_false (Nat.lt_irrefl _), decide_eq_true (show k < k + 1 by omega)]; simp
        · have e2 : (p == k) = false := by simpa using w
          rw [e2, Bool.or_false]
          by_cases w2 : p < k
          · rw [decide_eq_true w2, decide_eq_true (show p < k + 1 by omega)]
          · rw [decide_eq_false w2, decide_eq_false (show ¬ p < k + 1 by omega)]
      | false =>
        have : ¬ momp s.1 (dr s.1 t) f k ≤ 2 * day + 1 := fun y => by have := mb.mp y; rw [ec] at this; cases this
        rw [if_pos (by rw [nI_lt_i (by omega) (by omega)]; omega)]
        congr 4
        apply bm_x
        intro p hp
        by_cases w : p = k
        · rw [w, ec, Bool.and_false, Bool.and_false]
        · by_cases w2 : p < k
          · rw [decide_eq_true w2, decide_eq_true (show p < k + 1 by omega)]
          · rw [decide_eq_false w2, decide_eq_false (show ¬ p < k + 1 by omega)]
    · simp only [f_X1_knowingBehind_L13]
      rw [e_gfP (by rw [mk_66 h1]) h.1.2.2.2, ob, ct_n hT h.2.1.2.2.1, ob, if_pos (nI_le (Nat.le_refl _) (by omega))]
  rw [key, ob]
theorem e_dayAll {f t : Nat} (h : IC X i c s μ) (z : Cz X s.1 Rw Ft nr sz fo Ml Ln μ) (hf : fo.testBit f = true) (ht : t < (EN s.1).length) : f_X1_dayOfAll (X + 66) (nI f) (nI t) μ = some (nI (dyA s.1 (dr s.1 t) f)) := by
  have ok := h.2.1.1
  have n8 := ok.1.1
  have h1 := h.1.1
  have hc : c = X + 21 ∨ c = X + 39 := by have := h.1.2.1; omega
  have hT := tws_c h1 hc
  have f12 := cz_12 z hf
  unfold f_X1_dayOfAll
  rw [if_pos (by rw [mk_66 h1]), e_line h1 z f12, ob]
  have key : whl (f_X1_dayOfAll_L12 (X + 66) (nI t) (Ml f) μ) ((0 : Int32), (0 : Int32)) = some (nI (mxm s.1 (dr s.1 t) f (s.1 0 0))) := by
    refine whl_c (s.1 0 0) (fun k => (nI (mxm s.1 (dr s.1 t) f k), nI k)) rfl (fun k hk => ?_) ?_
    · have ml := momp_256 s.1 (dr s.1 t) f k
      have mx := mxm_255 (T := s.1) (d := dr s.1 t) (f := f) (n := k)
      simp only [f_X1_dayOfAll_L12]
      rw [e_gfP (by rw [mk_66 h1]) h.1.2.2.2, ob, ct_n hT h.2.1.2.2.1, ob, if_neg (by rw [nI_le_i (by omega) (by omega)]; omega), z_mom z hf ht (by omega), ob, ob, ob, nI_1]
      congr 4
      show _ = nI (max (mxm s.1 (dr s.1 t) f k) (momp s.1 (dr s.1 t) f k))
      by_cases w : mxm s.1 (dr s.1 t) f k < momp s.1 (dr s.1 t) f k
      · rw [if_pos (by rw [nI_lt_i (by omega) (by omega)]; exact w), Nat.max_eq_right (by omega)]
      · rw [if_neg (by rw [nI_lt_i (by omega) (by omega)]; exact w), Nat.max_eq_left (by omega)]
    · simp only [f_X1_dayOfAll_L12]
      rw [e_gfP (by rw [mk_66 h1]) h.1.2.2.2, ob, ct_n hT h.2.1.2.2.1, ob, if_pos (nI_le (Nat.le_refl _) (by omega))]
  have mx := mxm_255 (T := s.1) (d := dr s.1 t) (f := f) (n := s.1 0 0)
  rw [key, ob]
  unfold f_X1_dayOfAll_J43
  rw [show (2 : Int32) = nI 2 from rfl, pk_div (by omega) (by decide) (by decide), ← mxm_d, show (28 : Int32) = nI 28 from rfl]
  congr 1
  by_cases w : 28 < mxm s.1 (dr s.1 t) f (s.1 0 0) / 2
  · rw [if_pos (by rw [nI_lt_i (by omega) (by omega)]; exact w), Nat.min_eq_right (by omega)]
  · rw [if_neg (by rw [nI_lt_i (by omega) (by omega)]; exact w), Nat.min_eq_left (by omega)]
/-! rows of the fitting -/
theorem e_least {F : Nat → Bool} (h : Sh X μ) (z : FS X T F Rw Ft nr fo Ml Ln μ) (ok : OkT T) (hpos : 0 < (EN T).length) : f_X1_leastFitting (X + 66) μ = some (oI (ff F (EN T).length)) := by
  have hl := EN_len ok
  have fl := flt_n F (EN T).length
  have cl := cntb_le F (EN T).length
  have nr5 := (z.1.2.2.2.2.1 (by omega)).1
  unfold f_X1_leastFitting
  rw [if_pos (by rw [mk_66 h]), rf_66 h, ob, z.2.1]
  have hh := flt_h F (EN T).length
  by_cases e : (flt F (EN T).length).length = 0
  · rw [if_pos (by rw [e]; decide)]
    have : flt F (EN T).length = [] := List.eq_nil_of_length_eq_zero e
    rw [this] at hh
    rw [← hh]; rfl
  · have h0 : 0 < (flt F (EN T).length).length := by omega
    rw [if_neg (by rw [show (0 : Int32) = nI 0 from rfl, nI_le_i (by omega) (by omega)]; omega), e_gfP (by rw [mk_66 h]) z.1.1.2.1, ob, show ga_I Ft 0 μ = _ from e_gaI (i := 0) z.1.1.2.2.2.1 (by omega) (by have := z.1.1.2.2.2.2.1; omega), ob, z.2.2 0 h0]
    rw [List.head?_eq_getElem?, List.getElem?_eq_getElem h0] at hh
    rw [← hh]; rfl
theorem e_great {F : Nat → Bool} (h : Sh X μ) (z : FS X T F Rw Ft nr fo Ml Ln μ) (ok : OkT T) (hpos : 0 < (EN T).length) : f_X1_greatestFitting (X + 66) μ = some (oI (lst F (EN T).length)) := by
  have hl := EN_len ok
  have fl := flt_n F (EN T).length
  have cl := cntb_le F (EN T).length
  have nr5 := (z.1.2.2.2.2.1 (by omega)).1
  unfold f_X1_greatestFitting
  rw [if_pos (by rw [mk_66 h]), rf_66 h, ob, z.2.1]
  have hh := flt_l F (EN T).length
  by_cases e : (flt F (EN T).length).length = 0
  · rw [if_pos (by rw [e]; decide)]
    have : flt F (EN T).length = [] := List.eq_nil_of_length_eq_zero e
    rw [this] at hh
    rw [← hh]; rfl
  · have h0 : (flt F (EN T).length).length - 1 < (flt F (EN T).length).length := by omega
    rw [if_neg (by rw [show (0 : Int32) = nI 0 from rfl, nI_le_i (by omega) (by omega)]; omega), e_gfP (by rw [mk_66 h]) z.1.1.2.1, ob, ob, show (1 : Int32) = nI 1 from rfl, pk_sub (by omega), e_gaI z.1.1.2.2.2.1 (by omega) (by have := z.1.1.2.2.2.2.1; omega), ob, z.2.2 _ h0]
    rw [List.getLast?_eq_getElem?, List.getElem?_eq_getElem h0] at hh
    rw [← hh]; rfl
theorem e_rowAt1 {t : Nat} (h : Sh X μ) (z : Cz X T Rw Ft nr (EN T).length fo Ml Ln μ) (ok : OkT T) (ht : t < (EN T).length) : f_X1_rowAt (X + 66) (nI t) μ = some (nI (cr T (rwT T t))) := by
  have hl := EN_len ok
  obtain ⟨n1, n2⟩ := z.2.2.2.2.1 (by omega)
  unfold f_X1_rowAt
  rw [if_pos (by rw [mk_66 h]), if_neg (nI_pos (by omega)), e_gfP (by rw [mk_66 h]) z.1.1, ob, e_len z.1.2.2.1 ⟨by decide, by decide⟩, ob, if_neg (by have := z.1.2.2.2.2.1; rw [nI_le_i (by omega) (by omega)]; omega), ob, e_gaI z.1.2.2.1 (by omega) (by have := z.1.2.2.2.2.1; omega), ob, n2 t ht]
theorem e_mayD {F : Nat → Bool} {p : Nat} (h : Sh X μ) (z : FS X T F Rw Ft nr fo Ml Ln μ) (ok : OkT T) (hpos : 0 < (EN T).length) (hp : p < 8) : f_X1_mayDream (X + 66) (nI p) μ = some (nI (bm (fun q => anyb (fun k => F k && dr T k p == q) (EN T).length) 8)) := by
  have hl := EN_len ok
  have n8 := ok.1.1
  have fl := flt_n F (EN T).length
  have cl := cntb_le F (EN T).length
  have nr5 := (z.1.2.2.2.2.1 (by omega)).1
  have nr14 := z.1.1.2.2.2.2.1
  unfold f_X1_mayDream
  rw [if_pos (by rw [mk_66 h])]
  have key : whl (f_X1_mayDream_L4 (X + 66) (nI p) μ) ((0 : Int32), (0 : Int32)) = some (nI (bm (fun q => (flt F (EN T).length).any (fun k => dr T k p == q)) 8)) := by
    refine whl_c (flt F (EN T).length).length (fun j => (nI (bm (fun q => ((flt F (EN T).length).take j).any (fun k => dr T k p == q)) 8), nI j)) ?_ (fun j hj => ?_) ?_
    · have : bm (fun q => ((flt F (EN T).length).take 0).any (fun k => dr T k p == q)) 8 = 0 := bm_0.symm
      rw [this]; rfl
    · obtain ⟨m1, m2⟩ := flt_m (List.getElem_mem hj)
      have od := dr_ok ok m1
      have eD := e_dreamOf (μ := μ) (w := cr T (rwT T (flt F (EN T).length)[j])) (p := p) (cr_lt _ _) hp
      rw [dr_nb hp] at eD
      have tk1 : (flt F (EN T).length).take (j + 1) = (flt F (EN T).length).take j ++ [(flt F (EN T).length)[j]] := by rw [List.take_succ, List.getElem?_eq_getElem hj]; rfl
      simp only [f_X1_mayDream_L4, f_X1_mayDream_J50]
      rw [rf_66 h, ob, z.2.1, if_neg (by rw [nI_le_i (by omega) (by omega)]; omega), e_gfP (by rw [mk_66 h]) z.1.1.2.1, ob, e_len z.1.1.2.2.2.1 ⟨by decide, by decide⟩, ob, if_neg (by rw [nI_le_i (by omega) (by omega)]; omega), ob, e_gaI z.1.1.2.2.2.1 (by omega) (by omega), ob, z.2.2 j hj, e_rowAt1 h z.1 ok m1, ob, eD, ob, tk1]
      by_cases w : dr T (flt F (EN T).length)[j] p = 15
      · rw [if_pos (by unfold dI; rw [if_pos w]), ob, nI_1]
        congr 4
        apply bm_x
        intro q hq
        rw [List.any_append]
        have : (dr T (flt F (EN T).length)[j] p == q) = false := by simp; omega
        show _ = (_ || ((dr T (flt F (EN T).length)[j] p == q) || false))
        rw [this]; simp
      · have hd8 : dr T (flt F (EN T).length)[j] p < 8 := by rcases od.1 p with y | y; omega; exact absurd y w
        have e1 : dI (dr T (flt F (EN T).length)[j] p) = nI (dr T (flt F (EN T).length)[j] p) := by unfold dI; rw [if_neg w]
        rw [e1, if_neg (neg1_ne (by omega)), ob, b_one (by omega), nI_or, bm_set _ hd8, ob, nI_1]
        congr 4
        apply bm_x
        intro q hq
        rw [List.any_append]
        show _ = (_ || (_ || false))
        rw [Bool.or_false]
        congr 1
        exact Bool.beq_comm
    · simp only [f_X1_mayDream_L4]
      rw [List.take_length, rf_66 h, ob, z.2.1, if_pos (nI_le (Nat.le_refl _) (by omega))]
  rw [key, ob]
  congr 2
  apply bm_x
  intro q hq
  exact flt_any F (fun k => dr T k p == q) _
end CEN
