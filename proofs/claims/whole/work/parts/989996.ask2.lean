/-! ===== the best question: the class chooses ===== -/
section ASK
variable {X i c : Nat} {s : Sv} {μ ν ρ : Mm} {T : Tn} {A : Nat → Nat → Nat}
variable {Rw Ft nr fo : Nat} {Ml Ln : Nat → Nat}
theorem Gq_t {π : Mm} (h : Gq X μ ν) (h' : Gq X ν π) : Gq X μ π := ⟨h'.1.trans h.1, h'.2.1.trans h.2.1, h'.2.2.1.trans h.2.2.1, fun q a b => (h'.2.2.2.1 q a b).trans (h.2.2.2.1 q a b), fun k a => (h'.2.2.2.2 k a).trans (h.2.2.2.2 k a)⟩
theorem c_pick {p f : Nat} (ok : OkT T) (hp : p < T 0 0) (hf : f < T 0 1) (h : Sh X ν) (z : FS X T (fits T A 999) Rw Ft nr fo Ml Ln ν) (h80 : ∀ m, m < 56 → mm_I ν (X + 80) m = nI (ce (mpx T f p) (flt (fits T A 999) (EN T).length) m)) (fa : FA X T A (28 * (12 * p + f)) ν) : ∃ ρ, f_X1_chooseDay_J79 (X + 66) (nI p) (nI f) (nI (askS T A (28 * (12 * p + f))).1) ν = some (nI (askS T A (28 * (12 * p + f) + 28)).1, ρ) ∧ Gq X ν ρ ∧ FA X T A (28 * (12 * p + f) + 28) ρ := by
  have hl := EN_len ok
  have n8 := ok.1.1
  have n12 := ok.1.2.1
  have fl := flt_n (fits T A 999) (EN T).length
  have cl := cntb_le (fits T A 999) (EN T).length
  have key := whl_i (body := f_X1_chooseDay_L88 (X + 66) (nI p) (nI f)) 56 (fun m (x : Int32 × Int32 × Int32 × Mm) => ∃ ρ, x = (nI (askS T A (28 * (12 * p + f) + (m + 1) / 2)).1, nI (cu (mpx T f p) (flt (fits T A 999) (EN T).length) m), nI m, ρ) ∧ Gq X ν ρ ∧ mm_I ρ (X + 80) = mm_I ν (X + 80) ∧ FA X T A (28 * (12 * p + f) + (m + 1) / 2) ρ) (Q := fun b => ∃ ρ, b = (nI (askS T A (28 * (12 * p + f) + 28)).1, ρ) ∧ Gq X ν ρ ∧ FA X T A (28 * (12 * p + f) + 28) ρ) (s0 := (nI (askS T A (28 * (12 * p + f))).1, (0 : Int32), (0 : Int32), ν)) ⟨ν, by rw [cu_0]; rfl, Gq_r, rfl, fa⟩ ?_ ?_
  · obtain ⟨b, k1, ρ, rfl, k2, k3⟩ := key
    refine ⟨ρ, ?_, k2, k3⟩
    unfold f_X1_chooseDay_J79
    rw [k1, ob]
  · rintro m x hm ⟨ρ, rfl, q1, q2, q3⟩
    have g := sh_x q1.1 q1.2.1 h
    have zr := Gq_fs q1 z
    have cs := cu_s (mpx T f p) (flt (fits T A 999) (EN T).length) m
    have cb := cu_le (mpx T f p) (flt (fits T A 999) (EN T).length) (m + 1)
    have sb := askS_b (T := T) (A := A) (28 * (12 * p + f) + (m + 1) / 2)
    have e1 : nI m - nI m / (2 : Int32) * (2 : Int32) = nI (m - m / 2 * 2) := by
      rw [show (2 : Int32) = nI 2 from rfl, pk_div (by omega) (by decide) (by decide), pk_mul, pk_sub (by omega)]
    simp only [f_X1_chooseDay_L88, f_X1_chooseDay_J160]
    rw [rp_66_3 g, ob, ln_80 g, ob, if_neg (by rw [nI_le_i (by omega) (by omega)]; omega), ob, ra_80 g hm, ob, q2, h80 m hm, nI_add, ← cs, ob, rf_66 g, ob, zr.2.1, fl, pk_sub (by omega)]
    rw [fl] at cb
    generalize hC : cu (mpx T f p) (flt (fits T A 999) (EN T).length) (m + 1) = C at cs cb ⊢
    have em : (if nI C < nI (cntb (fits T A 999) (EN T).length - C) then nI (cntb (fits T A 999) (EN T).length - C) else nI C) = nI (max C (cntb (fits T A 999) (EN T).length - C)) := by
      by_cases w : C < cntb (fits T A 999) (EN T).length - C
      · rw [if_pos (by rw [nI_lt_i (by omega) (by omega)]; exact w), Nat.max_eq_right (by omega)]
      · rw [if_neg (by rw [nI_lt_i (by omega) (by omega)]; exact w), Nat.max_eq_left (by omega)]
    have mb : max C (cntb (fits T A 999) (EN T).length - C) ≤ 14833 := by omega
    rw [em, ob]
    by_cases ev : m % 2 = 0
    · have em2 : (m + 1) / 2 = m / 2 := by omega
      have em3 : (m + 1 + 1) / 2 = m / 2 + 1 := by omega
      have eN := askN_e (T := T) (A := A) (p := p) (f := f) (day := m / 2) (by omega) (by omega)
      rw [show 2 * (m / 2) + 1 = m + 1 by omega, hC] at eN
      have eS := askS_s (T := T) (A := A) (28 * (12 * p + f) + m / 2) ⟨by omega, by omega⟩
      rw [eN] at eS
      rw [em2] at sb q3 ⊢
      rw [em3, ← Nat.add_assoc]
      rw [if_pos (by rw [e1, nI_z (by omega)]; omega)]
      by_cases w : max C (cntb (fits T A 999) (EN T).length - C) < (askS T A (28 * (12 * p + f) + m / 2)).1
      · rw [if_pos w] at eS
        rw [if_neg (by rw [nI_le_i (by omega) (by omega)]; omega), wf_66 g, ob]
        have g2 : Sh X (ms_I ρ (X + 66) 12 (nI p)) := g
        rw [wf_66 g2, ob]
        have g3 : Sh X (ms_I (ms_I ρ (X + 66) 12 (nI p)) (X + 66) 13 (nI f)) := g
        rw [show nI m / (2 : Int32) = nI (m / 2) from pk_div (by omega) (by decide) (by decide), wf_66 g3, ob, ob, nI_1]
        refine ⟨_, rfl, _, by rw [eS], Gq_66 (by omega) (Gq_66 (by omega) (Gq_66 (by omega) q1)), by rw [iI, if_neg (by omega), iI, if_neg (by omega), iI, if_neg (by omega)]; exact q2, ?_⟩
        unfold FA
        rw [eS]
        refine ⟨?_, ?_, ?_⟩
        · rw [rI, if_neg (by omega), rI, if_neg (by omega), rI, if_pos ⟨rfl, rfl⟩]
          show nI p = nI ((28 * (12 * p + f) + m / 2) / 28 / 12)
          congr 1; omega
        · rw [rI, if_neg (by omega), rI, if_pos ⟨rfl, rfl⟩]
          show nI f = nI ((28 * (12 * p + f) + m / 2) / 28 % 12)
          congr 1; omega
        · rw [rI, if_pos ⟨rfl, rfl⟩]
          show nI (m / 2) = nI ((28 * (12 * p + f) + m / 2) % 28)
          congr 1; omega
      · rw [if_neg w] at eS
        rw [if_pos (by rw [nI_le_i (by omega) (by omega)]; omega), ob, nI_1]
        exact ⟨_, rfl, ρ, by rw [eS], q1, q2, FA_e eS q3⟩
    · rw [if_neg (by rw [e1, nI_z (by omega)]; omega), ob, nI_1, show (m + 1 + 1) / 2 = (m + 1) / 2 by omega]
      exact ⟨_, rfl, ρ, rfl, q1, q2, q3⟩
  · rintro x ⟨ρ, rfl, q1, q2, q3⟩
    have g := sh_x q1.1 q1.2.1 h
    refine ⟨_, ?_, ρ, rfl, q1, q3⟩
    simp only [f_X1_chooseDay_L88]
    rw [rp_66_3 g, ob, ln_80 g, ob, if_pos (nI_le (Nat.le_refl _) (by omega))]
theorem c_chDay {p f : Nat} (ok : OkT T) (hp : p < T 0 0) (hf : f < T 0 1) (hfo : fo.testBit f = true) (hpos : 0 < (EN T).length) (h : Sh X ν) (z : FS X T (fits T A 999) Rw Ft nr fo Ml Ln ν) (fa : FA X T A (28 * (12 * p + f)) ν) : ∃ ρ, f_X1_chooseDay (X + 66) (nI p) (nI f) (nI (askS T A (28 * (12 * p + f))).1) ν = some (nI (askS T A (28 * (12 * p + f) + 28)).1, ρ) ∧ Gq X ν ρ ∧ FA X T A (28 * (12 * p + f) + 28) ρ := by
  have n8 := ok.1.1
  have n12 := ok.1.2.1
  have G1 : Gq X ν (ms_A ν (X + 80) (fun j => if j < 56 then 0 else mm_I ν (X + 80) j)) := Gq_A Gq_r
  have h1 := sh_x G1.1 G1.2.1 h
  have z1 := Gq_fs G1 z
  obtain ⟨π, a1, a2, a3, a4⟩ := c_came (p := p) (f := f) (l2 := nI f) (l3 := nI (askS T A (28 * (12 * p + f))).1) ok (by omega) hfo h1 z1 hpos (fun m hm => by rw [iA, if_pos rfl, if_pos hm])
  have h2 := sh_x a2.1 a2.2.1 h1
  obtain ⟨ρ, b1, b2, b3⟩ := c_pick ok hp hf h2 (Gq_fs a2 z1) a4 (FA_x a3 (FA_x (by rw [iA, if_neg (by omega)]) fa))
  refine ⟨ρ, ?_, Gq_t G1 (Gq_t a2 b2), b3⟩
  unfold f_X1_chooseDay
  rw [if_pos (by rw [mk_66 h]), rp_66_3 h, ob, e_fillI (mk_80 h) (by decide), ob, e_line h1 z1.1 (by omega), ob, a1, ob, b1]
theorem c_chRow {p : Nat} (hw : IW X c s ν) (hp : p < s.1 0 0) (hfo : ∀ f, f < s.1 0 1 → fo.testBit f = true) (z : FS X s.1 (fits s.1 A 999) Rw Ft nr fo Ml Ln ν) (fa : FA X s.1 A (28 * (12 * p)) ν) : ∃ ρ, whl (f_X1_choose_L61 (X + 66) (nI p)) (nI (askS s.1 A (28 * (12 * p))).1, (0 : Int32), ν) = some (nI (askS s.1 A (28 * (12 * (p + 1)))).1, ρ) ∧ Gq X ν ρ ∧ FA X s.1 A (28 * (12 * (p + 1))) ρ := by
  have ok := hw.2.1.1
  have n8 := ok.1.1
  have n12 := ok.1.2.1
  have hpos : 0 < (EN s.1).length := by have := hw.2.1.2.1; omega
  have hc : c = X + 21 ∨ c = X + 39 := by have := hw.1.2.1; omega
  have sk : askS s.1 A (28 * (12 * (p + 1))) = askS s.1 A (28 * (12 * p + s.1 0 1)) := by
    have := askS_k (T := s.1) (A := A) (a := 28 * (12 * p + s.1 0 1)) (28 * (12 - s.1 0 1)) (fun j h1 h2 => by omega)
    rw [← this]
    congr 1; omega
  have key := whl_i (body := f_X1_choose_L61 (X + 66) (nI p)) (s.1 0 1) (fun f (x : Int32 × Int32 × Mm) => ∃ ρ, x = (nI (askS s.1 A (28 * (12 * p + f))).1, nI f, ρ) ∧ Gq X ν ρ ∧ FA X s.1 A (28 * (12 * p + f)) ρ) (Q := fun b => ∃ ρ, b = (nI (askS s.1 A (28 * (12 * (p + 1)))).1, ρ) ∧ Gq X ν ρ ∧ FA X s.1 A (28 * (12 * (p + 1))) ρ) (s0 := (nI (askS s.1 A (28 * (12 * p))).1, (0 : Int32), ν)) ⟨ν, rfl, Gq_r, fa⟩ ?_ ?_
  · obtain ⟨b, k1, ρ, rfl, k2, k3⟩ := key
    exact ⟨ρ, k1, k2, k3⟩
  · rintro f x hf ⟨ρ, rfl, q1, q2⟩
    have w := IW_z hw (Gq_z q1)
    have g := w.1.1
    have hT := tws_c g hc
    obtain ⟨π, b1, b2, b3⟩ := c_chDay ok hp hf (hfo f hf) hpos g (Gq_fs q1 z) q2
    refine ⟨(nI (askS s.1 A (28 * (12 * p + (f + 1)))).1, nI (f + 1), π), ?_, π, rfl, Gq_t q1 b2, b3⟩
    simp only [f_X1_choose_L61]
    rw [e_gfP (by rw [mk_66 g]) w.1.2.2.2, ob, tc_p3 hT, ob, ct_s4 hT w.2.1.2.2.1, ob, if_neg (by rw [nI_le_i (by omega) (by omega)]; omega), b1, ob, ob, nI_1]
    rfl
  · rintro x ⟨ρ, rfl, q1, q2⟩
    have w := IW_z hw (Gq_z q1)
    have g := w.1.1
    have hT := tws_c g hc
    refine ⟨_, ?_, ρ, by rw [sk], q1, FA_e sk q2⟩
    simp only [f_X1_choose_L61]
    rw [e_gfP (by rw [mk_66 g]) w.1.2.2.2, ob, tc_p3 hT, ob, ct_s4 hT w.2.1.2.2.1, ob, if_pos (nI_le (Nat.le_refl _) (by omega))]
theorem c_chAll (hw : IW X c s ν) (hfo : ∀ f, f < s.1 0 1 → fo.testBit f = true) (z : FS X s.1 (fits s.1 A 999) Rw Ft nr fo Ml Ln ν) (fa : FA X s.1 A 0 ν) : ∃ ρ, whl (f_X1_choose_L47 (X + 66)) (nI (askS s.1 A 0).1, (0 : Int32), ν) = some ρ ∧ Gq X ν ρ ∧ FA X s.1 A 2688 ρ := by
  have ok := hw.2.1.1
  have n8 := ok.1.1
  have hc : c = X + 21 ∨ c = X + 39 := by have := hw.1.2.1; omega
  have sk : askS s.1 A 2688 = askS s.1 A (28 * (12 * s.1 0 0)) := by
    have := askS_k (T := s.1) (A := A) (a := 28 * (12 * s.1 0 0)) (336 * (8 - s.1 0 0)) (fun j h1 h2 => by omega)
    rw [← this]
    congr 1; omega
  refine whl_i (body := f_X1_choose_L47 (X + 66)) (s.1 0 0) (fun p (x : Int32 × Int32 × Mm) => ∃ ρ, x = (nI (askS s.1 A (28 * (12 * p))).1, nI p, ρ) ∧ Gq X ν ρ ∧ FA X s.1 A (28 * (12 * p)) ρ) (Q := fun ρ => Gq X ν ρ ∧ FA X s.1 A 2688 ρ) (s0 := (nI (askS s.1 A 0).1, (0 : Int32), ν)) ⟨ν, rfl, Gq_r, fa⟩ ?_ ?_
  · rintro p x hp ⟨ρ, rfl, q1, q2⟩
    have w := IW_z hw (Gq_z q1)
    have g := w.1.1
    have hT := tws_c g hc
    obtain ⟨π, b1, b2, b3⟩ := c_chRow w hp hfo (Gq_fs q1 z) q2
    refine ⟨(nI (askS s.1 A (28 * (12 * (p + 1)))).1, nI (p + 1), π), ?_, π, rfl, Gq_t q1 b2, b3⟩
    simp only [f_X1_choose_L47, f_X1_choose_J91]
    rw [e_gfP (by rw [mk_66 g]) w.1.2.2.2, ob, ct_n hT w.2.1.2.2.1, ob, if_neg (by rw [nI_le_i (by omega) (by omega)]; omega), b1, ob, ob, nI_1]
  · rintro x ⟨ρ, rfl, q1, q2⟩
    have w := IW_z hw (Gq_z q1)
    have g := w.1.1
    have hT := tws_c g hc
    refine ⟨ρ, ?_, q1, FA_e sk q2⟩
    simp only [f_X1_choose_L47]
    rw [e_gfP (by rw [mk_66 g]) w.1.2.2.2, ob, ct_n hT w.2.1.2.2.1, ob, if_pos (nI_le (Nat.le_refl _) (by omega))]
theorem c_choose (h : IC X i c s μ) : ∃ ν, f_X1_choose (X + 66) (999 : Int32) μ = some ν ∧ IC X i c s ν ∧ ChC X μ ν ∧ mm_I ν (X + 66) 12 = askI s.1 s.2.2.2.2.2.1 0 ∧ mm_I ν (X + 66) 13 = askI s.1 s.2.2.2.2.2.1 1 ∧ mm_I ν (X + 66) 14 = askI s.1 s.2.2.2.2.2.1 2 := by
  have h1 := h.1.1
  have ok := h.2.1.1
  have n12 := ok.1.2.1
  obtain ⟨Rw, Ft, nr, sz, fo, Ml, Ln, as, z0, ak⟩ := cc_z h.2.2.2.2.2.2
  unfold f_X1_choose
  rw [if_pos (by rw [mk_66 h1]), rf_66 h1, ob, ak.1]
  cases as with
  | true =>
    rw [if_neg (show ¬ nI true.toNat = 0 by decide)]
    exact ⟨μ, rfl, h, ChC_r _ _, ak.2 rfl⟩
  | false =>
    rw [if_pos (show nI false.toNat = 0 from rfl), wz1_66 h1, ob]
    have h2 : Sh X (ms_I μ (X + 66) 11 1) := h1
    rw [wf_66 h2, ob]
    have h3 : Sh X (ms_I (ms_I μ (X + 66) 11 1) (X + 66) 12 (-1)) := h1
    rw [wf_66 h3, ob]
    have h4 : Sh X (ms_I (ms_I (ms_I μ (X + 66) 11 1) (X + 66) 12 (-1)) (X + 66) 13 (-1)) := h1
    rw [wf_66 h4, ob]
    have fr0 : FrZ X μ (ms_I (ms_I (ms_I (ms_I μ (X + 66) 11 1) (X + 66) 12 (-1)) (X + 66) 13 (-1)) (X + 66) 14 (-1)) := FrZ_t (FrZ_I (by omega)) (FrZ_t (FrZ_I (by omega)) (FrZ_t (FrZ_I (by omega)) (FrZ_I (by omega))))
    have o66 : ∀ q, q ≠ X + 66 → mm_I (ms_I (ms_I (ms_I (ms_I μ (X + 66) 11 1) (X + 66) 12 (-1)) (X + 66) 13 (-1)) (X + 66) 14 (-1)) q = mm_I μ q := fun q hq => by rw [iI, if_neg hq, iI, if_neg hq, iI, if_neg hq, iI, if_neg hq]
    have f9 : ∀ k, k < 11 → mm_I (ms_I (ms_I (ms_I (ms_I μ (X + 66) 11 1) (X + 66) 12 (-1)) (X + 66) 13 (-1)) (X + 66) 14 (-1)) (X + 66) k = mm_I μ (X + 66) k := fun k hk => by rw [rI, if_neg (by omega), rI, if_neg (by omega), rI, if_neg (by omega), rI, if_neg (by omega)]
    have f11 : mm_I (ms_I (ms_I (ms_I (ms_I μ (X + 66) 11 1) (X + 66) 12 (-1)) (X + 66) 13 (-1)) (X + 66) 14 (-1)) (X + 66) 11 = 1 := by rw [rI, if_neg (by omega), rI, if_neg (by omega), rI, if_neg (by omega), rI, if_pos ⟨rfl, rfl⟩]
    have f12 : mm_I (ms_I (ms_I (ms_I (ms_I μ (X + 66) 11 1) (X + 66) 12 (-1)) (X + 66) 13 (-1)) (X + 66) 14 (-1)) (X + 66) 12 = -1 := by rw [rI, if_neg (by omega), rI, if_neg (by omega), rI, if_pos ⟨rfl, rfl⟩]
    have f13 : mm_I (ms_I (ms_I (ms_I (ms_I μ (X + 66) 11 1) (X + 66) 12 (-1)) (X + 66) 13 (-1)) (X + 66) 14 (-1)) (X + 66) 13 = -1 := by rw [rI, if_neg (by omega), rI, if_pos ⟨rfl, rfl⟩]
    have f14 : mm_I (ms_I (ms_I (ms_I (ms_I μ (X + 66) 11 1) (X + 66) 12 (-1)) (X + 66) 13 (-1)) (X + 66) 14 (-1)) (X + 66) 14 = -1 := by rw [rI, if_pos ⟨rfl, rfl⟩]
    have z1 : Cz X s.1 Rw Ft nr sz fo Ml Ln (ms_I (ms_I (ms_I (ms_I μ (X + 66) 11 1) (X + 66) 12 (-1)) (X + 66) 13 (-1)) (X + 66) 14 (-1)) := cz_x (μ := μ) (by rfl) (by rfl) ⟨f9 9 (by omega), f9 10 (by omega)⟩ (fun q _ _ => o66 q (by omega)) (fun _ _ => by rfl) z0
    generalize ms_I (ms_I (ms_I (ms_I μ (X + 66) 11 1) (X + 66) 12 (-1)) (X + 66) 13 (-1)) (X + 66) 14 (-1) = μ1 at fr0 f11 f12 f13 f14 z1 ⊢
    have w1 := IW_z (IC_w h) fr0
    obtain ⟨μ2, R2, F2, n2, o2, M2, L2, a1, a2, a3, -⟩ := z_find (fm := 4095) w1 (by decide) z1
    have w2 := IW_z w1 a2.1
    obtain ⟨μ3, R3, F3, n3, o3, M3, L3, b1, b2, b3, b4, b5⟩ := z_fit (st := 999) w2 (by omega) a2.2.1
    have w3 := IW_z w2 b2
    have g3 := w3.1.1
    have keep : ∀ k, 11 ≤ k → mm_I μ3 (X + 66) k = mm_I μ1 (X + 66) k := fun k hk => by rw [b4 k hk, a2.2.2.1 k (by omega) (by omega)]
    have t4095 : ∀ f, f < 12 → Nat.testBit 4095 f = true := by decide
    obtain ⟨ν, c1, c2, c3⟩ := c_chAll (A := s.2.2.2.2.2.1) w3 (fun f hf => b5 f hf (a3 f hf (Or.inl (t4095 f (by omega))))) b3 ⟨by rw [keep 12 (by omega), f12]; rfl, by rw [keep 13 (by omega), f13]; rfl, by rw [keep 14 (by omega), f14]; rfl⟩
    have c0 : (nI (askS s.1 s.2.2.2.2.2.1 0).1 : Int32) = mm_I μ3 (X + 66) 8 := by rw [b3.2.1, flt_n]; rfl
    rw [show f_X1_findComings (X + 66) (4095 : Int32) μ1 = _ from a1, ob, show f_X1_findFitting (X + 66) (999 : Int32) μ2 = _ from b1, ob, rf_66 g3, ob, ← c0, c1, ob]
    have fin := IC_z h (FrZ_t fr0 (FrZ_t a2.1 (FrZ_t b2 (Gq_z c2)))) (ic_N h) (z_cc (Gq_fs c2 b3).1 (as := true) ⟨by rw [c2.2.2.2.2 11 (by omega), keep 11 (by omega), f11]; rfl, fun _ => c3⟩)
    exact ⟨ν, rfl, fin.1, fin.2, c3⟩
end ASK
