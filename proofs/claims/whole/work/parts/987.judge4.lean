/-! ===== judge: the model judges ===== -/
section CALLS
variable {b L : Nat} {xs : Nat → Int32} {X i c n : Nat} {B : Nat → Nat} {s : Sv} {μ ν : Mm}
theorem bkL_ok : ∀ k x l, bkL n B k x = some l → ∀ y ∈ l, y.1 < 28 ∧ y.2.1 < 8 ∧ y.2.2 < 12 := by
  intro k
  induction k with
  | zero => intro x l h; cases h
  | succ k ih =>
    intro x l h
    unfold bkL at h
    by_cases e0 : tk n B x = 0
    · rw [if_pos e0] at h
      cases h
      intro y hy; cases hy
    · rw [if_neg e0] at h
      by_cases e : (okn n B 27 x && okn n B 7 (tN n B x) && okn n B 11 (tN n B (tN n B x)) && (tk n B (tN n B (tN n B (tN n B x))) == 3)) = true
      · rw [if_pos e] at h
        cases e2 : bkL n B k (tN n B (tN n B (tN n B (tN n B x)))) with
        | none => rw [e2] at h; cases h
        | some l' =>
          rw [e2] at h
          cases h
          simp only [Bool.and_eq_true] at e
          have a1 := okn_d e.1.1.1
          have a2 := okn_d e.1.1.2
          have a3 := okn_d e.1.2
          intro y hy
          rcases List.mem_cons.mp hy with rfl | hy
          · exact ⟨by show tv n B x < 28; omega, by show tv n B (tN n B x) < 8; omega, by show tv n B (tN n B (tN n B x)) < 12; omega⟩
          · exact ih _ _ e2 y hy
      · rw [if_neg e] at h; cases h
theorem fbad_s {R : Nat × Nat × Nat → Bool} {j : Nat} : ∀ l m, fbad R (some j) m l = some j := by
  intro l
  induction l with
  | nil => intro m; rfl
  | cons a l ih => intro m; exact ih (m + 1)
theorem r_jl (ok : OkT s.1) (ht : s.2.1 < (EN s.1).length) (l : List (Nat × Nat × Nat)) (hl : l.length ≤ 150) (hok : ∀ y ∈ l, y.1 < 28 ∧ y.2.1 < 8 ∧ y.2.2 < 12) : ∀ suf pre ν, pre ++ suf = l → IR X s ν → ChM X μ ν → RwB X l ν → ∃ r ν', whl (f_X11_judge_L15 (X + 90) (nI l.length)) (nI pre.length, ν) = some r ∧ IR X s ν' ∧ ChM X μ ν' ∧ ((fbad (rgt s.1 (dr s.1 s.2.1)) none pre.length suf = none ∧ r = .inr (.inr ν')) ∨ (∃ j, fbad (rgt s.1 (dr s.1 s.2.1)) none pre.length suf = some j ∧ (r = .inl (nI j, ν') ∨ r = .inr (.inl (nI j, ν'))))) := by
  have od := dr_ok ok ht
  have hn := ok.1.1
  have hn1 := ok.1.2.1
  intro suf
  induction suf with
  | nil =>
    intro pre ν hp hI hC hw
    rw [List.append_nil] at hp
    subst hp
    refine ⟨_, ν, whl_r (b := Sum.inr (Sum.inr ν)) ?_, hI, hC, Or.inl ⟨rfl, rfl⟩⟩
    simp only [f_X11_judge_L15]
    rw [if_pos (nI_le (Nat.le_refl _) (by omega))]
  | cons y suf ih =>
    intro pre ν hp hI hC hw
    have h1 := hI.1
    have hlen : pre.length < l.length := by rw [← hp]; simp
    have hy : l[pre.length]? = some y := by rw [← hp]; simp
    have hym : y ∈ l := by rw [← hp]; simp
    obtain ⟨y1, y2, y3⟩ := hok y hym
    obtain ⟨w1, w2, w3⟩ := hw pre.length y hy
    obtain ⟨dd, p, f⟩ := y
    replace y1 : dd < 28 := y1
    replace y2 : p < 8 := y2
    replace y3 : f < 12 := y3
    replace w1 : mm_I ν (X + 113) pre.length = nI dd := w1
    replace w2 : mm_I ν (X + 114) pre.length = nI p := w2
    replace w3 : mm_I ν (X + 115) pre.length = nI f := w3
    obtain ⟨z, hz⟩ : ∃ z, z = f_X11_judge_L15 (X + 90) (nI l.length) (nI pre.length, ν) := ⟨_, rfl⟩
    have body := hz
    simp only [f_X11_judge_L15] at body
    rw [if_neg (by rw [nI_le_i (by omega) (by omega)]; omega), rp_90_44 h1, ob, ra_114 h1 (by omega), ob, w2, r_isPerson h1 hI.2.1.1 ok, ob, bz_if] at body
    have wrong : rgt s.1 (dr s.1 s.2.1) (dd, p, f) = false → fbad (rgt s.1 (dr s.1 s.2.1)) none pre.length ((dd, p, f) :: suf) = some pre.length := fun e => by
      show fbad _ (if rgt s.1 (dr s.1 s.2.1) (dd, p, f) then none else some pre.length) _ _ = _
      rw [e]
      exact fbad_s _ _
    by_cases e1 : p < s.1 0 0
    · rw [if_pos (inR_nI e1 (by omega)), rp_90_45 h1, ob, ra_115 h1 (by omega), ob, w3, r_isFact h1 hI.2.1.1 ok, ob, bz_if] at body
      by_cases e2 : f < s.1 0 1
      · obtain ⟨a, hl2⟩ := e_live (us := fun _ => false) h1 hI.2.1.1 ok od (dr_R ok ht) (by rw [nz]; exact hI.2.1.2.2.2.2.1) y1 (show 7 < 8 by decide) false
        replace hl2 : f_X11_live (X + 90) (lN (rwT s.1 s.2.1)) (nI dd) (7 : Int32) (0 : Int32) ν = some (m_kn X (k_day s.1 (dr s.1 s.2.1) (Nat.testBit 7) (fun q => dl s.1 q dd || false) dd (k_run s.1 (dr s.1 s.2.1) (Nat.testBit 7) (fun _ => false) (k_0, o_fg (mm_I ν (X + 90))) dd)) a ν) := hl2
        have hbit := k_ahd_1 (w := Nat.testBit 7) (us := fun _ => false) (o := o_fg (mm_I ν (X + 90))) ok od dd p f
        rw [decide_eq_true e2, Bool.true_and] at hbit
        have hkn := IR_kn (κ := k_day s.1 (dr s.1 s.2.1) (Nat.testBit 7) (fun q => dl s.1 q dd || false) dd (k_run s.1 (dr s.1 s.2.1) (Nat.testBit 7) (fun _ => false) (k_0, o_fg (mm_I ν (X + 90))) dd)) (a := a) hI (fun k hk => by rw [k_day_o (by omega), k_run_o (by omega)]; exact fg_o (by omega))
        rw [if_pos (inR_nI e2 (by omega)), rp_90_34 h1, ob, rf_90 h1, ob, hI.2.1.2.2.2.1, r_row h1 hI.2.1 ok ht, ob, rp_90_43 h1, ob, ra_113 h1 (by omega), ob, w1, hl2, ob] at body
        generalize k_day s.1 (dr s.1 s.2.1) (Nat.testBit 7) (fun q => dl s.1 q dd || false) dd (k_run s.1 (dr s.1 s.2.1) (Nat.testBit 7) (fun _ => false) (k_0, o_fg (mm_I ν (X + 90))) dd) = κ at hbit hkn body
        have hSk : Sh X (m_kn X κ a ν) := kn_s h1
        have v2 : mm_I (m_kn X κ a ν) (X + 114) pre.length = nI p := by rw [kn_o (by omega) (by omega) (by omega)]; exact w2
        have v3 : mm_I (m_kn X κ a ν) (X + 115) pre.length = nI f := by rw [kn_o (by omega) (by omega) (by omega)]; exact w3
        have hw' : RwB X l (m_kn X κ a ν) := fun t y hy => by rw [kn_o (by omega) (by omega) (by omega), kn_o (by omega) (by omega) (by omega), kn_o (by omega) (by omega) (by omega)]; exact hw t y hy
        rw [rp_90_35 hSk, ob, rp_90_44 hSk, ob, ra_114 hSk (by omega), ob, v2, ra_111 hSk (by omega), ob, kn_k y2, rp_90_45 hSk, ob, ra_115 hSk (by omega), ob, v3, bmb y3 (by decide), hbit] at body
        have hr : rgt s.1 (dr s.1 s.2.1) (dd, p, f) = c_ahd s.1 (dr s.1 s.2.1) (Nat.testBit 7) (fun _ => false) f dd p := by
          unfold rgt
          rw [decide_eq_true e1, decide_eq_true e2]; rfl
        cases ea : c_ahd s.1 (dr s.1 s.2.1) (Nat.testBit 7) (fun _ => false) f dd p with
        | false =>
          rw [ea, if_pos (show nI false.toNat = 0 from rfl)] at body
          exact ⟨_, _, whl_r (hz.symm.trans body), hkn.1, ChM_t hC hkn.2, Or.inr ⟨_, wrong (hr.trans ea), Or.inr rfl⟩⟩
        | true =>
          rw [ea, if_neg (by decide), ob, nI_1] at body
          have hpl : (pre ++ [(dd, p, f)]).length = pre.length + 1 := by simp
          obtain ⟨r, ν', u1, u2, u3, u4⟩ := ih (pre ++ [(dd, p, f)]) (m_kn X κ a ν) (by rw [List.append_assoc]; exact hp) hkn.1 (ChM_t hC hkn.2) hw'
          rw [hpl] at u1 u4
          refine ⟨r, ν', by rw [whl_l (hz.symm.trans body)]; exact u1, u2, u3, ?_⟩
          have hs : fbad (rgt s.1 (dr s.1 s.2.1)) none pre.length ((dd, p, f) :: suf) = fbad (rgt s.1 (dr s.1 s.2.1)) none (pre.length + 1) suf := by
            show fbad _ (if rgt s.1 (dr s.1 s.2.1) (dd, p, f) then none else some pre.length) _ _ = _
            rw [hr, ea]; rfl
          rw [hs]
          exact u4
      · rw [if_neg (fun q => by have := q.2; rw [nI_toInt (by omega)] at this; omega)] at body
        exact ⟨_, ν, whl_r (hz.symm.trans body), hI, hC, Or.inr ⟨_, wrong (by unfold rgt; rw [decide_eq_false e2, Bool.and_false]; rfl), Or.inl rfl⟩⟩
    · rw [if_neg (fun q => by have := q.2; rw [nI_toInt (by omega)] at this; omega)] at body
      exact ⟨_, ν, whl_r (hz.symm.trans body), hI, hC, Or.inr ⟨_, wrong (by unfold rgt; rw [decide_eq_false e1]; rfl), Or.inl rfl⟩⟩
theorem r_judge (hS : ∀ i j, i < 14 → j < 14 → mm_S μ i = mm_S μ j → i = j) (ok : OkT s.1) (ht : s.2.1 < (EN s.1).length) (h : IR X s μ) (n9 : s.2.2.1 ≤ 900) (hB : ∀ p, s.2.2.2.1 p < 256) : ∃ ν, f_X11_judge (X + 90) μ = some (bkA s.1 (dr s.1 s.2.1) s.2.2.1 s.2.2.2.1, ν) ∧ IR X (s.1, s.2.1, 0, s.2.2.2.1, s.2.2.2.2) ν ∧ ChM X μ ν := by
  obtain ⟨ν, a1, a2, a3, a4, a5, -⟩ := r_tape hS h n9 hB
  obtain ⟨r, π, b1, b2, b3, b4⟩ := r_bk (s := (s.1, s.2.1, 0, s.2.2.2.1, s.2.2.2.2)) hS 151 0 [] ν rfl (Nat.le_refl _) (Nat.zero_le _) ⟨a2, a3, a4, a5⟩ (fun t y hy => by cases hy)
  replace b1 : whl (f_X11_readBook_L6 (X + 90)) ((0 : Int32), ν) = some r := b1
  have hrb : f_X11_readBook (X + 90) μ = (sm (fun b6 => some ((-1 : Int32), b6)) (sm (fun b6 => some ((-1 : Int32), b6)) (fun b6 => some (b6.1, b6.2)))) r := by
    unfold f_X11_readBook
    rw [if_pos (by rw [mk_90 h.1]), a1, ob, b1, ob]
  unfold f_X11_judge bkA
  rw [if_pos (by rw [mk_90 h.1]), hrb]
  rcases b4 with ⟨l, l1, rfl, l3, l4⟩ | ⟨l1, rfl | rfl⟩
  · replace l4 : 0 + l.length ≤ 150 := l4
    replace l3 : RwB X l π := l3
    obtain ⟨r2, ρ, c1, c2, c3, c4⟩ := r_jl (s := (s.1, s.2.1, 0, s.2.2.2.1, s.2.2.2.2)) (μ := μ) ok ht l (by omega) (bkL_ok _ _ _ l1) l [] π rfl b2 b3 l3
    replace c1 : whl (f_X11_judge_L15 (X + 90) (nI l.length)) ((0 : Int32), π) = some r2 := c1
    refine ⟨ρ, ?_, c2, c3⟩
    rw [l1]
    show (some (nI (0 + l.length), π)).bind _ = some (jdg (fbad (rgt s.1 (dr s.1 s.2.1)) none 0 l) l.length, ρ)
    rw [Nat.zero_add, ob, if_pos (show (0 : Int32) ≤ nI l.length from nI_le (Nat.zero_le _) (by omega)), c1, ob]
    rcases c4 with ⟨d1, rfl⟩ | ⟨j, d1, rfl | rfl⟩
    · rw [show fbad (rgt s.1 (dr s.1 s.2.1)) none 0 l = none from d1]; rfl
    · rw [show fbad (rgt s.1 (dr s.1 s.2.1)) none 0 l = some j from d1]; rfl
    · rw [show fbad (rgt s.1 (dr s.1 s.2.1)) none 0 l = some j from d1]; rfl
  · exact ⟨π, by rw [l1]; show (some ((-1 : Int32), π)).bind _ = _; rw [ob, if_neg (show ¬ (0 : Int32) ≤ (-1 : Int32) by decide)], b2, b3⟩
  · exact ⟨π, by rw [l1]; show (some ((-1 : Int32), π)).bind _ = _; rw [ob, if_neg (show ¬ (0 : Int32) ≤ (-1 : Int32) by decide)], b2, b3⟩
theorem k_judge (hS : ∀ i j, i < 14 → j < 14 → mm_S μ i = mm_S μ j → i = j) (h0 : mm_K μ b = (19, L) ∧ mm_I μ b = xs ∧ b < X) (h : IC X i c s μ) (hR : IR X s μ) : ∃ r μ1 μ2, f_X10_judge X μ = some (r, μ1) ∧ f_X11_judge (X + 90) μ1 = some (r, μ2) ∧ Inv b L xs X (i + 1) μ2 ∧ (mm_K μ1 b = (19, L) ∧ mm_I μ1 b = xs) := by
  obtain ⟨n9, hB, -⟩ := h.2.2.1
  obtain ⟨ν, a1, a2, a3⟩ := c_judge h
  have hT := t_X10_judgedBook a1
  have h1 := a2.1.1
  have hx : f_X10_judge X μ = some (bkA s.1 (dr s.1 s.2.1) s.2.2.1 s.2.2.2.1, ms_I ν (X + 1) 1 0) := by
    unfold f_X10_judge
    rw [if_pos (by rw [mk_0 h.1.1]), a1, ob, rp_0_0 h1, ob, wf_1 h1, ob]
  have hCI : IC X i c (s.1, s.2.1, 0, s.2.2.2.1, s.2.2.2.2) (ms_I ν (X + 1) 1 0) := by
    refine IC_tp (by rfl) (by rfl) (fun q _ g1 _ _ => by rw [iI, if_neg g1]) (by rw [iI, if_neg (by omega)]) (fun _ _ _ => by rfl) ?_ a2
    exact ⟨by omega, hB, by rw [rI, if_pos ⟨rfl, rfl⟩]; rfl, fun j hj => by omega⟩
  refine both h0 hR hx (IC_up hCI) (ChC_t a3 (ChC_I (by unfold inM; omega) (by omega))) (fun hν => r_judge (fun i j hi hj e => hS i j hi hj ?_) h.2.1.1 h.2.1.2.1 hν n9 hB)
  have : mm_S (ms_I ν (X + 1) 1 0) = mm_S μ := congrArg (fun t => t.2.1) hT
  rw [this] at e
  exact e
end CALLS
