/-! ===== the best question: the reference counts ===== -/
section ASKM
variable {X i c : Nat} {s : Sv} {μ ν π : Mm} {T : Tn} {d : Nat → Nat}
theorem FrK_125 {φ : Nat → Int32} : FrK X μ (ms_A μ (X + 125) φ) := ⟨rfl, rfl, fun _ _ => rfl, fun q _ _ _ h => by rw [iA, if_neg h], fun k _ => by rw [iA, if_neg (by omega)]⟩
theorem KD_125 {φ : Nat → Int32} {j : Nat} (h : KD X T d ν j π) : KD X T d (ms_A ν (X + 125) φ) j (ms_A π (X + 125) φ) := by
  obtain ⟨a, rfl⟩ := h
  refine ⟨a, ?_⟩
  have e90 : mm_I (ms_A ν (X + 125) φ) (X + 90) = mm_I ν (X + 90) := by rw [iA, if_neg (by omega)]
  rw [e90]
  unfold m_kn
  have ek : ∀ κ, k_row X κ (ms_A ν (X + 125) φ) = k_row X κ ν := fun κ => by
    unfold k_row
    rw [iA, if_neg (by omega)]
  rw [ek, sA_c ν (show X + 125 ≠ X + 112 by omega), sA_c _ (show X + 125 ≠ X + 111 by omega), sA_c _ (show X + 125 ≠ X + 90 by omega)]
def bv (T : Tn) (d : Nat → Nat) (j : Nat) : Int32 := nI (c_ahd T d w7 u0 (j / 28 % 12) (j % 28) (j / 28 / 12)).toNat
theorem r_ix {p f day : Nat} : ((((12 : Int32) * nI p) + nI f) * (28 : Int32)) + nI day = nI ((12 * p + f) * 28 + day) := by
  rw [show (12 : Int32) = nI 12 from rfl, show (28 : Int32) = nI 28 from rfl, pk_mul, nI_add, pk_mul, nI_add]
theorem r_c83 {day p : Nat} {l1 : Int32} (h : IR X s π) (ok : OkT s.1) (od : OkD (s.1 0 0) d) (hk : KD X s.1 d ν day π) (hp : p < s.1 0 0) (hd : day < 28) (φ0 : Nat → Int32) : ∃ φ, whl (f_X11_countFits_L83 (X + 90) l1 (nI day) (nI p)) ((0 : Int32), ms_A π (X + 125) φ0) = some (ms_A π (X + 125) φ) ∧ ∀ j, j < 2688 → φ j = φ0 j + (if j % 28 = day ∧ j / 28 / 12 = p ∧ j / 28 % 12 < s.1 0 1 then bv s.1 d j else 0) := by
  have n8 := ok.1.1
  have n12 := ok.1.2.1
  have key := whl_i (body := f_X11_countFits_L83 (X + 90) l1 (nI day) (nI p)) (s.1 0 1) (fun f (x : Int32 × Mm) => ∃ φ, x = (nI f, ms_A π (X + 125) φ) ∧ ∀ j, j < 2688 → φ j = φ0 j + (if j % 28 = day ∧ j / 28 / 12 = p ∧ j / 28 % 12 < f then bv s.1 d j else 0)) (Q := fun ρ => ∃ φ, ρ = ms_A π (X + 125) φ ∧ ∀ j, j < 2688 → φ j = φ0 j + (if j % 28 = day ∧ j / 28 / 12 = p ∧ j / 28 % 12 < s.1 0 1 then bv s.1 d j else 0)) (s0 := ((0 : Int32), ms_A π (X + 125) φ0)) ⟨φ0, rfl, fun j _ => by rw [if_neg (by omega), Int32.add_zero]⟩ ?_ ?_
  · obtain ⟨ρ, k1, φ, rfl, k2⟩ := key
    exact ⟨φ, k1, k2⟩
  · rintro f x hf ⟨φ, rfl, q1⟩
    have ir := (IR_k h (FrK_125 (φ := φ))).1
    have g := ir.1
    have e111 : mm_I (ms_A π (X + 125) φ) (X + 111) p = nI (bm (fun f => decide (f < s.1 0 1) && c_ahd s.1 d w7 u0 f day p) 12) := by
      rw [iA, if_neg (by omega)]
      exact KD_k ok od hk (by omega)
    simp only [f_X11_countFits_L83]
    refine ⟨_, by rw [rp_90_12 g, ob, mr_n1 g ir.2.1.1, ob, if_neg (by rw [nI_le_i (by omega) (by omega)]; omega), rp_90_58 g, ob, r_ix, ra_125 g (by omega), ob, rp_90_35 g, ob, ra_111 g (by omega), ob, e111, bmb (by omega) (by decide), decide_eq_true hf, Bool.true_and, wa_125 g _ (by omega), ob, ob, nI_1, sA_I], _, rfl, fun j hj => ?_⟩
    by_cases y : j = (12 * p + f) * 28 + day
    · subst y
      rw [u1_s, iA, if_pos rfl, q1 _ hj, if_neg (by omega), Int32.add_zero, if_pos ⟨by omega, by omega, by omega⟩]
      unfold bv
      rw [show ((12 * p + f) * 28 + day) / 28 % 12 = f by omega, show ((12 * p + f) * 28 + day) % 28 = day by omega, show ((12 * p + f) * 28 + day) / 28 / 12 = p by omega]
    · rw [u1_n _ _ y, q1 j hj]
      by_cases w : j % 28 = day ∧ j / 28 / 12 = p ∧ j / 28 % 12 < f
      · rw [if_pos w, if_pos ⟨w.1, w.2.1, by omega⟩]
      · rw [if_neg w, if_neg (fun u => w ⟨u.1, u.2.1, by omega⟩)]
  · rintro x ⟨φ, rfl, q1⟩
    have ir := (IR_k h (FrK_125 (φ := φ))).1
    have g := ir.1
    refine ⟨_, ?_, φ, rfl, q1⟩
    simp only [f_X11_countFits_L83]
    rw [rp_90_12 g, ob, mr_n1 g ir.2.1.1, ob, if_pos (nI_le (Nat.le_refl _) (by omega))]
theorem r_c70 {day : Nat} {l1 : Int32} (h : IR X s π) (ok : OkT s.1) (od : OkD (s.1 0 0) d) (hk : KD X s.1 d ν day π) (hd : day < 28) : ∃ φ, whl (f_X11_countFits_L70 (X + 90) l1 (nI day)) ((0 : Int32), π) = some (ms_A π (X + 125) φ) ∧ ∀ j, j < 2688 → φ j = mm_I π (X + 125) j + (if j % 28 = day ∧ j / 28 / 12 < s.1 0 0 ∧ j / 28 % 12 < s.1 0 1 then bv s.1 d j else 0) := by
  have n8 := ok.1.1
  have n12 := ok.1.2.1
  have key := whl_i (body := f_X11_countFits_L70 (X + 90) l1 (nI day)) (s.1 0 0) (fun p (x : Int32 × Mm) => ∃ φ, x = (nI p, ms_A π (X + 125) φ) ∧ ∀ j, j < 2688 → φ j = mm_I π (X + 125) j + (if j % 28 = day ∧ j / 28 / 12 < p ∧ j / 28 % 12 < s.1 0 1 then bv s.1 d j else 0)) (Q := fun ρ => ∃ φ, ρ = ms_A π (X + 125) φ ∧ ∀ j, j < 2688 → φ j = mm_I π (X + 125) j + (if j % 28 = day ∧ j / 28 / 12 < s.1 0 0 ∧ j / 28 % 12 < s.1 0 1 then bv s.1 d j else 0)) (s0 := ((0 : Int32), π)) ⟨mm_I π (X + 125), by rw [sA_id]; rfl, fun j _ => by rw [if_neg (by omega), Int32.add_zero]⟩ ?_ ?_
  · obtain ⟨ρ, k1, φ, rfl, k2⟩ := key
    exact ⟨φ, k1, k2⟩
  · rintro p x hp ⟨φ, rfl, q1⟩
    have ir := (IR_k h (FrK_125 (φ := φ))).1
    have g := ir.1
    obtain ⟨φ2, k1, k2⟩ := r_c83 (l1 := l1) h ok od hk hp hd φ
    simp only [f_X11_countFits_L70, f_X11_countFits_J131]
    refine ⟨_, by rw [rp_90_12 g, ob, mr_n0 g ir.2.1.1, ob, if_neg (by rw [nI_le_i (by omega) (by omega)]; omega), k1, ob, ob, nI_1], φ2, rfl, fun j hj => ?_⟩
    rw [k2 j hj, q1 j hj]
    by_cases w : j % 28 = day ∧ j / 28 / 12 = p ∧ j / 28 % 12 < s.1 0 1
    · have w1 : ¬ (j % 28 = day ∧ j / 28 / 12 < p ∧ j / 28 % 12 < s.1 0 1) := by omega
      have w2 : j % 28 = day ∧ j / 28 / 12 < p + 1 ∧ j / 28 % 12 < s.1 0 1 := by omega
      rw [if_pos w, if_neg w1, if_pos w2, Int32.add_zero]
    · by_cases w1 : j % 28 = day ∧ j / 28 / 12 < p ∧ j / 28 % 12 < s.1 0 1
      · have w2 : j % 28 = day ∧ j / 28 / 12 < p + 1 ∧ j / 28 % 12 < s.1 0 1 := by omega
        rw [if_neg w, if_pos w1, if_pos w2, Int32.add_zero]
      · have w2 : ¬ (j % 28 = day ∧ j / 28 / 12 < p + 1 ∧ j / 28 % 12 < s.1 0 1) := by omega
        rw [if_neg w, if_neg w1, if_neg w2, Int32.add_zero]
  · rintro x ⟨φ, rfl, q1⟩
    have ir := (IR_k h (FrK_125 (φ := φ))).1
    have g := ir.1
    refine ⟨_, ?_, φ, rfl, q1⟩
    simp only [f_X11_countFits_L70]
    rw [rp_90_12 g, ob, mr_n0 g ir.2.1.1, ob, if_pos (nI_le (Nat.le_refl _) (by omega))]
theorem r_c49 {k : Nat} (h : IR X s ν) (ok : OkT s.1) (hk : k < (EN s.1).length) (h0 : KR X s.1 (dr s.1 k) ν 0 μ) : ∃ π, whl (f_X11_countFits_L49 (X + 90) (nI k)) ((0 : Int32), μ) = some π ∧ FrK X ν π ∧ mm_L π (X + 124) = mm_L ν (X + 124) ∧ ∀ j, j < 2688 → mm_I π (X + 125) j = mm_I ν (X + 125) j + (if j / 28 / 12 < s.1 0 0 ∧ j / 28 % 12 < s.1 0 1 then bv s.1 (dr s.1 k) j else 0) := by
  have od := dr_ok ok hk
  refine whl_i (body := f_X11_countFits_L49 (X + 90) (nI k)) 28 (fun day (x : Int32 × Mm) => ∃ ν' π, x = (nI day, π) ∧ FrK X ν ν' ∧ mm_L ν' (X + 124) = mm_L ν (X + 124) ∧ KR X s.1 (dr s.1 k) ν' day π ∧ ∀ j, j < 2688 → mm_I ν' (X + 125) j = mm_I ν (X + 125) j + (if j % 28 < day ∧ j / 28 / 12 < s.1 0 0 ∧ j / 28 % 12 < s.1 0 1 then bv s.1 (dr s.1 k) j else 0)) (Q := fun π => FrK X ν π ∧ mm_L π (X + 124) = mm_L ν (X + 124) ∧ ∀ j, j < 2688 → mm_I π (X + 125) j = mm_I ν (X + 125) j + (if j / 28 / 12 < s.1 0 0 ∧ j / 28 % 12 < s.1 0 1 then bv s.1 (dr s.1 k) j else 0)) (s0 := ((0 : Int32), μ)) ⟨ν, μ, rfl, FrK_r, rfl, h0, fun j _ => by rw [if_neg (by omega), Int32.add_zero]⟩ ?_ ?_
  · rintro day x hd ⟨ν', π, rfl, q1, q2, q3, q4⟩
    have ir' := (IR_k h q1).1
    have irp := (IR_k ir' (KR_j q3).1).1
    obtain ⟨π1, p1, p2⟩ := q_day ir' ok hk hd q3
    have ir1 := (IR_k ir' (KD_j p2).1).1
    obtain ⟨φ, r1, r2⟩ := r_c70 (l1 := nI k) ir1 ok od p2 hd
    have kd2 := KD_125 (φ := φ) p2
    have ir2 := (IR_k ir' (FrK_125 (φ := φ))).1
    have ir3 := (IR_k ir1 (FrK_125 (φ := φ))).1
    obtain ⟨π2, t1, t2⟩ := q_ngt ir2 ok hk hd kd2
    refine ⟨(nI (day + 1), π2), ?_, ms_A ν' (X + 125) φ, π2, rfl, FrK_t q1 FrK_125, q2, t2, fun j hj => ?_⟩
    · simp only [f_X11_countFits_L49, f_X11_countFits_J137]
      rw [if_neg (by rw [show (28 : Int32) = nI 28 from rfl, nI_le_i (by omega) (by omega)]; omega), rp_90_34 irp.1, ob, r_row irp.1 irp.2.1 ok hk, ob, p1, ob, r1, ob, rp_90_34 ir3.1, ob, r_row ir3.1 ir3.2.1 ok hk, ob, t1, ob, ob, nI_1]
    · rw [iA, if_pos rfl, r2 j hj, (KD_j p2).2.2, q4 j hj]
      by_cases w : j % 28 = day ∧ j / 28 / 12 < s.1 0 0 ∧ j / 28 % 12 < s.1 0 1
      · have w1 : ¬ (j % 28 < day ∧ j / 28 / 12 < s.1 0 0 ∧ j / 28 % 12 < s.1 0 1) := by omega
        have w2 : j % 28 < day + 1 ∧ j / 28 / 12 < s.1 0 0 ∧ j / 28 % 12 < s.1 0 1 := by omega
        rw [if_pos w, if_neg w1, if_pos w2, Int32.add_zero]
      · by_cases w1 : j % 28 < day ∧ j / 28 / 12 < s.1 0 0 ∧ j / 28 % 12 < s.1 0 1
        · have w2 : j % 28 < day + 1 ∧ j / 28 / 12 < s.1 0 0 ∧ j / 28 % 12 < s.1 0 1 := by omega
          rw [if_neg w, if_pos w1, if_pos w2, Int32.add_zero]
        · have w2 : ¬ (j % 28 < day + 1 ∧ j / 28 / 12 < s.1 0 0 ∧ j / 28 % 12 < s.1 0 1) := by omega
          rw [if_neg w, if_neg w1, if_neg w2, Int32.add_zero]
  · rintro x ⟨ν', π, rfl, q1, q2, q3, q4⟩
    have fj := KR_j q3
    refine ⟨π, ?_, FrK_t q1 fj.1, by rw [fj.2.1, q2], fun j hj => ?_⟩
    · simp only [f_X11_countFits_L49]
      rw [if_pos (show (28 : Int32) ≤ nI 28 from nI_le (Nat.le_refl 28) (by decide))]
    · rw [fj.2.2, q4 j hj]
      by_cases w : j / 28 / 12 < s.1 0 0 ∧ j / 28 % 12 < s.1 0 1
      · rw [if_pos w, if_pos ⟨by omega, w⟩]
      · rw [if_neg w, if_neg (fun u => w u.2)]
theorem BF_x {F : Nat → Bool} {n : Nat} (h : mm_L ν (X + 124) = mm_L μ (X + 124)) (f : BF X F n μ) : BF X F n ν := by
  unfold BF at f ⊢
  rw [h]
  exact f
theorem r_count (h : IR X s μ) (ok : OkT s.1) (bf : BF X (fits s.1 s.2.2.2.2.2.1 999) (EN s.1).length μ) : ∃ π, f_X11_countFits (X + 90) μ = some π ∧ FrK X μ π ∧ ∀ j, j < 2688 → j / 28 / 12 < s.1 0 0 → j / 28 % 12 < s.1 0 1 → mm_I π (X + 125) j = nI (askN s.1 s.2.2.2.2.2.1 j) := by
  have hl := EN_len ok
  have fill : whl (f_X11_countFits_L2 (X + 90)) ((0 : Int32), μ) = some (ms_A μ (X + 125) (fun j => if j < 2688 then 0 else mm_I μ (X + 125) j)) := by
    refine whl_c 2688 (fun k => (nI k, ms_A μ (X + 125) (fun j => if j < k then 0 else mm_I μ (X + 125) j))) ?_ (fun k hk => ?_) ?_
    · rw [fill_0 (fun _ => (0 : Int32)), sA_id]; rfl
    · have g : Sh X (ms_A μ (X + 125) (fun j => if j < k then 0 else mm_I μ (X + 125) j)) := h.1
      simp only [f_X11_countFits_L2]
      rw [if_neg (by rw [show (2688 : Int32) = nI 2688 from rfl, nI_le_i (by omega) (by omega)]; omega), rp_90_58 g, ob, wa_125 g _ hk, ob, ob, nI_1, sA_I, u1_fill (fun _ => (0 : Int32))]
    · simp only [f_X11_countFits_L2]
      rw [if_pos (show (2688 : Int32) ≤ nI 2688 from nI_le (Nat.le_refl 2688) (by decide))]
  have key := whl_i (body := f_X11_countFits_L24 (X + 90)) (EN s.1).length (fun k (x : Int32 × Mm) => ∃ π, x = (nI k, π) ∧ FrK X μ π ∧ BF X (fits s.1 s.2.2.2.2.2.1 999) (EN s.1).length π ∧ ∀ j, j < 2688 → j / 28 / 12 < s.1 0 0 → j / 28 % 12 < s.1 0 1 → mm_I π (X + 125) j = nI (cntb (fun k => fits s.1 s.2.2.2.2.2.1 999 k && c_ahd s.1 (dr s.1 k) (Nat.testBit 7) (fun _ => false) (j / 28 % 12) (j % 28) (j / 28 / 12)) k)) (Q := fun π => FrK X μ π ∧ ∀ j, j < 2688 → j / 28 / 12 < s.1 0 0 → j / 28 % 12 < s.1 0 1 → mm_I π (X + 125) j = nI (askN s.1 s.2.2.2.2.2.1 j)) (s0 := ((0 : Int32), ms_A μ (X + 125) (fun j => if j < 2688 then 0 else mm_I μ (X + 125) j))) ⟨_, rfl, FrK_125, BF_x (by rfl) bf, fun j hj _ _ => by rw [iA, if_pos rfl, if_pos hj]; rfl⟩ ?_ ?_
  · obtain ⟨π, k1, k2, k3⟩ := key
    refine ⟨π, ?_, k2, k3⟩
    unfold f_X11_countFits f_X11_countFits_J22
    rw [if_pos (by rw [mk_90 h.1]), fill, ob, k1, ob]
  · rintro k x hk ⟨π, rfl, q1, q2, q3⟩
    have ir := (IR_k h q1).1
    simp only [f_X11_countFits_L24, f_X11_countFits_J156]
    rw [rf_90 ir.1, ob, ir.2.1.2.2.1, if_neg (by rw [nI_le_i (by omega) (by omega)]; omega), r_isFit ir.1 q2 hk hl, ob]
    have ec : ∀ j, cntb (fun k => fits s.1 s.2.2.2.2.2.1 999 k && c_ahd s.1 (dr s.1 k) (Nat.testBit 7) (fun _ => false) (j / 28 % 12) (j % 28) (j / 28 / 12)) (k + 1) = cntb (fun k => fits s.1 s.2.2.2.2.2.1 999 k && c_ahd s.1 (dr s.1 k) (Nat.testBit 7) (fun _ => false) (j / 28 % 12) (j % 28) (j / 28 / 12)) k + (fits s.1 s.2.2.2.2.2.1 999 k && c_ahd s.1 (dr s.1 k) (Nat.testBit 7) (fun _ => false) (j / 28 % 12) (j % 28) (j / 28 / 12)).toNat := fun j => rfl
    cases ef : fits s.1 s.2.2.2.2.2.1 999 k with
    | false =>
      refine ⟨_, by rw [if_pos (show nI false.toNat = 0 from rfl), ob, nI_1], π, rfl, q1, q2, fun j hj h1 h2 => ?_⟩
      rw [ec, ef]
      exact q3 j hj h1 h2
    | true =>
      obtain ⟨π0, f1, f2⟩ := r_fgt (T := s.1) (d := dr s.1 k) ir.1
      obtain ⟨π1, g1, g2, g3, g4⟩ := r_c49 ir ok hk f2
      refine ⟨_, by rw [if_neg (show ¬ nI true.toNat = 0 by decide), f1, ob, g1, ob, ob, nI_1], π1, rfl, FrK_t q1 g2, BF_x g3 q2, fun j hj h1 h2 => ?_⟩
      rw [g4 j hj, if_pos ⟨h1, h2⟩, q3 j hj h1 h2, ec, ef, Bool.true_and]
      unfold bv
      rw [nI_add]
  · rintro x ⟨π, rfl, q1, q2, q3⟩
    have ir := (IR_k h q1).1
    refine ⟨π, ?_, q1, q3⟩
    simp only [f_X11_countFits_L24]
    rw [rf_90 ir.1, ob, ir.2.1.2.2.1, if_pos (nI_le (Nat.le_refl _) (by omega))]
end ASKM
