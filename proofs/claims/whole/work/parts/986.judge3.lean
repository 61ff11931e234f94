/-! ===== judge: the model ===== -/
section CALLS
variable {b L : Nat} {xs : Nat → Int32} {X i c n : Nat} {B : Nat → Nat} {s : Sv} {μ ν : Mm}
/-- the model's half while it reads the book -/
def RS (X n : Nat) (B : Nat → Nat) (s : Sv) (μ ν : Mm) (x : Nat) : Prop := IR X s ν ∧ ChM X μ ν ∧ RTp X n B ν ∧ Tkn X n B x ν
def RwB (X : Nat) (a : List (Nat × Nat × Nat)) (ν : Mm) : Prop := ∀ t y, a[t]? = some y → mm_I ν (X + 113) t = nI y.1 ∧ mm_I ν (X + 114) t = nI y.2.1 ∧ mm_I ν (X + 115) t = nI y.2.2
theorem r_scan4 {x a k : Nat} {v : Int32} (hS : ∀ i j, i < 14 → j < 14 → mm_S μ i = mm_S μ j → i = j) (h : RS X n B s μ ν x) (hx : x ≤ n) (ha : a = X + 113 ∨ a = X + 114 ∨ a = X + 115) : ∃ π, f_X11_scan (X + 90) (ms_I ν a k v) = some π ∧ RS X n B s μ π (tN n B x) ∧ ∀ q, q ≠ X + 90 → mm_I π q = mm_I (ms_I ν a k v) q := by
  obtain ⟨h1, h2, h3, h4⟩ := h
  obtain ⟨g1, g2⟩ := IR_sc (a := a) (k := k) (v := v) (by unfold scM; omega) h1
  have hT2 : RTp X n B (ms_I ν a k v) := ⟨by rw [rI, if_neg (by omega)]; exact h3.1, h3.2.1, h3.2.2.1, fun i hi => by rw [iI, if_neg (by omega)]; exact h3.2.2.2 i hi⟩
  have h66 : mm_I (ms_I ν a k v) (X + 90) 6 = nI (tN n B x) := by rw [rI, if_neg (by omega)]; exact h4.2.1
  have hSm : mm_S (ms_I ν a k v) = mm_S μ := congrArg (fun t => t.2.1) h2.2.2.2
  obtain ⟨π, p1, p2, p3, p4, p5, p6, p7, p8⟩ := r_scan g1.1 hT2 (fun i j hi hj e => hS i j hi hj (by rw [hSm] at e; exact e)) h66 (tN_le hx)
  obtain ⟨o1, o2⟩ := IR_fS g1 p2
  exact ⟨π, p1, ⟨o1, ChM_t (ChM_t h2 g2) o2, frs_tp hT2 p2, ⟨p3, p5, p8⟩⟩, p2.2.2.1⟩
theorem r_scan5 {x : Nat} (hS : ∀ i j, i < 14 → j < 14 → mm_S μ i = mm_S μ j → i = j) (h : RS X n B s μ ν x) (hx : x ≤ n) : ∃ π, f_X11_scan (X + 90) ν = some π ∧ RS X n B s μ π (tN n B x) ∧ ∀ q, q ≠ X + 90 → mm_I π q = mm_I ν q := by
  obtain ⟨h1, h2, h3, h4⟩ := h
  have hSm : mm_S ν = mm_S μ := congrArg (fun t => t.2.1) h2.2.2.2
  obtain ⟨π, p1, p2, p3, p4, p5, p6, p7, p8⟩ := r_scan h1.1 h3 (fun i j hi hj e => hS i j hi hj (by rw [hSm] at e; exact e)) h4.2.1 (tN_le hx)
  obtain ⟨o1, o2⟩ := IR_fS h1 p2
  exact ⟨π, p1, ⟨o1, ChM_t h2 o2, frs_tp h3 p2, ⟨p3, p5, p8⟩⟩, p2.2.2.1⟩
theorem tkR {x k : Nat} (h : Tkn X n B x ν) (k4 : k = 2 ∨ k = 3) : (mm_I ν (X + 90) 3 = nI k) = (tk n B x = k) := by
  have hk := tk_le (n := n) (B := B) (x := x)
  have hl := kR_le hk
  rw [h.1]
  show (nI (kR (tk n B x)) = nI k) = _
  rw [nI_eq_i (by omega) (by omega)]
  unfold kR
  apply propext
  split
  · omega
  · split <;> omega
theorem tkR4 {x : Nat} (h : Tkn X n B x ν) : (mm_I ν (X + 90) 3 = (4 : Int32)) = (tk n B x = 0) := by
  have hk := tk_le (n := n) (B := B) (x := x)
  have hl := kR_le hk
  rw [h.1]
  show (nI (kR (tk n B x)) = nI 4) = _
  rw [nI_eq_i (by omega) (by omega)]
  exact kR_4 hk
/-- one number of an act -/
theorem r_num {x m q lim a : Nat} {lq : Int32} (hS : ∀ i j, i < 14 → j < 14 → mm_S μ i = mm_S μ j → i = j) (h : RS X n B s μ ν x) (hx : x ≤ n) (hm : tk n B x = 2 → m < 150) (hq : q = 0 ∧ lim = 27 ∧ a = X + 113 ∨ q = 1 ∧ lim = 7 ∧ a = X + 114 ∨ q = 2 ∧ lim = 11 ∧ a = X + 115) (hlq : lq = nI q) : (okn n B lim x = false ∧ f_X11_readBook_L16 (X + 90) (nI m) (lq, ν) = some (.inr (.inl ν))) ∨ (okn n B lim x = true ∧ ∃ π, f_X11_readBook_L16 (X + 90) (nI m) (lq, ν) = some (.inl (nI (q + 1), π)) ∧ RS X n B s μ π (tN n B x) ∧ ∀ q, q ≠ X + 90 → mm_I π q = mm_I (ms_I ν a m (nI (tv n B x))) q) := by
  have h1 := h.1.1
  have e2 := tkR h.2.2.2 (Or.inl rfl)
  subst hlq
  by_cases e : tk n B x = 2
  · have hd : tv n B x < 10000 := dv_4 e
    have h7 : mm_I ν (X + 90) 7 = nI (tv n B x) := h.2.2.2.2.2 e
    have hm := hm e
    by_cases z : tv n B x ≤ lim
    · right
      refine ⟨by unfold okn; rw [e, decide_eq_true z]; rfl, ?_⟩
      obtain ⟨π, p1, p2, p3⟩ := r_scan4 (k := m) (v := nI (tv n B x)) (a := a) hS h hx (by omega)
      refine ⟨π, ?_, p2, p3⟩
      simp only [f_X11_readBook_L16, f_X11_readBook_J54, f_X11_readBook_J104]
      rcases hq with ⟨rfl, rfl, rfl⟩ | ⟨rfl, rfl, rfl⟩ | ⟨rfl, rfl, rfl⟩
      · rw [if_neg (by decide), rf_90 h1, ob, if_pos (show mm_I ν (X + 90) 3 = 2 from e2 ▸ e), rf_90 h1, ob, h7, if_pos (show nI 0 = 0 from rfl), if_pos (show nI (tv n B x) ≤ (27 : Int32) by rw [show (27 : Int32) = nI 27 from rfl, nI_le_i (by omega) (by omega)]; exact z), if_pos (show nI 0 = 0 from rfl), rp_90_43 h1, ob, ob, wa_113 h1 _ hm, ob, p1, ob, ob]
        rfl
      · rw [if_neg (by decide), rf_90 h1, ob, if_pos (show mm_I ν (X + 90) 3 = 2 from e2 ▸ e), rf_90 h1, ob, h7, if_neg (show ¬ nI 1 = 0 by decide), if_pos (show nI 1 = 1 from rfl), if_pos (show nI (tv n B x) ≤ (7 : Int32) by rw [show (7 : Int32) = nI 7 from rfl, nI_le_i (by omega) (by omega)]; exact z), if_neg (show ¬ nI 1 = 0 by decide), if_pos (show nI 1 = 1 from rfl), rp_90_44 h1, ob, ob, wa_114 h1 _ hm, ob, p1, ob, ob]
        rfl
      · rw [if_neg (by decide), rf_90 h1, ob, if_pos (show mm_I ν (X + 90) 3 = 2 from e2 ▸ e), rf_90 h1, ob, h7, if_neg (show ¬ nI 2 = 0 by decide), if_neg (show ¬ nI 2 = 1 by decide), if_pos (show nI (tv n B x) ≤ (11 : Int32) by rw [show (11 : Int32) = nI 11 from rfl, nI_le_i (by omega) (by omega)]; exact z), if_neg (show ¬ nI 2 = 0 by decide), if_neg (show ¬ nI 2 = 1 by decide), rp_90_45 h1, ob, ob, wa_115 h1 _ hm, ob, p1, ob, ob]
        rfl
    · left
      refine ⟨by unfold okn; rw [e, decide_eq_false z]; rfl, ?_⟩
      simp only [f_X11_readBook_L16, f_X11_readBook_J54, f_X11_readBook_J104]
      rcases hq with ⟨rfl, rfl, rfl⟩ | ⟨rfl, rfl, rfl⟩ | ⟨rfl, rfl, rfl⟩
      · rw [if_neg (by decide), rf_90 h1, ob, if_pos (show mm_I ν (X + 90) 3 = 2 from e2 ▸ e), rf_90 h1, ob, h7, if_pos (show nI 0 = 0 from rfl), if_neg (show ¬ nI (tv n B x) ≤ (27 : Int32) by rw [show (27 : Int32) = nI 27 from rfl, nI_le_i (by omega) (by omega)]; exact z)]
      · rw [if_neg (by decide), rf_90 h1, ob, if_pos (show mm_I ν (X + 90) 3 = 2 from e2 ▸ e), rf_90 h1, ob, h7, if_neg (show ¬ nI 1 = 0 by decide), if_pos (show nI 1 = 1 from rfl), if_neg (show ¬ nI (tv n B x) ≤ (7 : Int32) by rw [show (7 : Int32) = nI 7 from rfl, nI_le_i (by omega) (by omega)]; exact z)]
      · rw [if_neg (by decide), rf_90 h1, ob, if_pos (show mm_I ν (X + 90) 3 = 2 from e2 ▸ e), rf_90 h1, ob, h7, if_neg (show ¬ nI 2 = 0 by decide), if_neg (show ¬ nI 2 = 1 by decide), if_neg (show ¬ nI (tv n B x) ≤ (11 : Int32) by rw [show (11 : Int32) = nI 11 from rfl, nI_le_i (by omega) (by omega)]; exact z)]
  · left
    refine ⟨by unfold okn; rw [show (tk n B x == 2) = false by simpa using e]; rfl, ?_⟩
    simp only [f_X11_readBook_L16]
    have h3 : ¬ (3 : Int32) ≤ nI q := by rw [show (3 : Int32) = nI 3 from rfl, nI_le_i (by omega) (by omega)]; omega
    rw [if_neg h3, rf_90 h1, ob, if_neg (show ¬ mm_I ν (X + 90) 3 = 2 from fun w => e (e2 ▸ w))]
theorem r_three {m : Nat} : f_X11_readBook_L16 (X + 90) (nI m) (nI 3, ν) = some (.inr (.inr ν)) := by
  simp only [f_X11_readBook_L16]
  rw [if_pos (by decide)]
theorem r_bk (hS : ∀ i j, i < 14 → j < 14 → mm_S μ i = mm_S μ j → i = j) : ∀ k x a ν, a.length + k = 151 → 6 * a.length ≤ x → x ≤ n → RS X n B s μ ν x → RwB X a ν → ∃ r ν', whl (f_X11_readBook_L6 (X + 90)) (nI a.length, ν) = some r ∧ IR X s ν' ∧ ChM X μ ν' ∧ ((∃ l, bkL n B k x = some l ∧ r = .inr (.inr (nI (a.length + l.length), ν')) ∧ RwB X (a ++ l) ν' ∧ a.length + l.length ≤ 150) ∨ (bkL n B k x = none ∧ (r = .inl ν' ∨ r = .inr (.inl ν')))) := by
  intro k
  induction k with
  | zero => intro x a ν h1 h2 h3 h4; have := h4.2.2.1.2.1; omega
  | succ k ih =>
    intro x a ν hm h6 hx hR hw
    have h1 := hR.1.1
    have n9 := hR.2.2.1.2.1
    have e4 := tkR4 hR.2.2.2
    unfold bkL
    by_cases e0 : tk n B x = 0
    · rw [if_pos e0]
      have body : f_X11_readBook_L6 (X + 90) (nI a.length, ν) = some (.inr (.inr (.inr (nI a.length, ν)))) := by
        simp only [f_X11_readBook_L6]
        rw [rf_90 h1, ob, if_pos (by rw [e4]; exact e0)]
      exact ⟨_, ν, whl_r body, hR.1, hR.2.1, Or.inl ⟨[], rfl, rfl, by rw [List.append_nil]; exact hw, by show a.length + 0 ≤ 150; omega⟩⟩
    · rw [if_neg e0]
      have hm150 : ∀ y, tk n B y = 2 → x ≤ y → y ≤ n → a.length < 150 := fun y g1 g2 g3 => by
        have := (num_gap g3 g1).2.2.1
        have := (till_p (q := isB) (B := B) g3).1
        omega
      have body : f_X11_readBook_L6 (X + 90) (nI a.length, ν) = (whl (f_X11_readBook_L16 (X + 90) (nI a.length)) ((0 : Int32), ν)).bind (sm (fun b16 => some (.inr (.inl b16))) (fun b16 => f_X11_readBook_J114 (X + 90) (nI a.length) b16)) := by
        simp only [f_X11_readBook_L6]
        rw [rf_90 h1, ob, if_neg (by rw [e4]; exact e0)]
      have x1 := tN_le (B := B) hx
      have x2 := tN_le (B := B) x1
      have x3 := tN_le (B := B) x2
      have x4 := tN_le (B := B) x3
      rcases r_num (q := 0) (lim := 27) (a := X + 113) (lq := 0) (m := a.length) hS hR hx (fun g => hm150 x g (Nat.le_refl _) hx) (Or.inl ⟨rfl, rfl, rfl⟩) rfl with ⟨o1, b1⟩ | ⟨o1, π1, b1, b2, b3⟩
      · rw [o1]
        rw [whl_r b1, ob] at body
        exact ⟨_, ν, whl_r body, hR.1, hR.2.1, Or.inr ⟨rfl, Or.inl rfl⟩⟩
      · obtain ⟨q1, q2⟩ := okn_d o1
        have y1 := (num_gap hx q1).1
        rcases r_num (q := 1) (lim := 7) (a := X + 114) (lq := nI 1) (m := a.length) hS b2 x1 (fun g => hm150 _ g (by omega) x1) (Or.inr (Or.inl ⟨rfl, rfl, rfl⟩)) rfl with ⟨o2, c1⟩ | ⟨o2, π2, c1, c2, c3⟩
        · rw [o1, o2]
          rw [whl_l b1, whl_r c1, ob] at body
          exact ⟨_, π1, whl_r body, b2.1, b2.2.1, Or.inr ⟨rfl, Or.inl rfl⟩⟩
        · obtain ⟨q3, q4⟩ := okn_d o2
          have y2 := (num_gap x1 q3).1
          rcases r_num (q := 2) (lim := 11) (a := X + 115) (lq := nI 2) (m := a.length) hS c2 x2 (fun g => hm150 _ g (by omega) x2) (Or.inr (Or.inr ⟨rfl, rfl, rfl⟩)) rfl with ⟨o3, d1⟩ | ⟨o3, π3, d1, d2, d3⟩
          · rw [o1, o2, o3]
            rw [whl_l b1, whl_l c1, whl_r d1, ob] at body
            exact ⟨_, π2, whl_r body, c2.1, c2.2.1, Or.inr ⟨rfl, Or.inl rfl⟩⟩
          · obtain ⟨q5, q6⟩ := okn_d o3
            have hlt := hm150 x q1 (Nat.le_refl _) hx
            have e3 := tkR d2.2.2.2 (Or.inr rfl)
            rw [whl_l b1, whl_l c1, whl_l d1, show nI (2 + 1) = nI 3 from rfl, whl_r r_three, ob] at body
            replace body : f_X11_readBook_L6 (X + 90) (nI a.length, ν) = f_X11_readBook_J114 (X + 90) (nI a.length) π3 := body
            unfold f_X11_readBook_J114 at body
            rw [rf_90 d2.1.1, ob] at body
            by_cases z3 : tk n B (tN n B (tN n B (tN n B x))) = 3
            · have gap := act_gap hx q1 q3 q5 z3
              obtain ⟨π4, f1, f2, f3⟩ := r_scan5 hS d2 x3
              rw [if_pos (show mm_I π3 (X + 90) 3 = 3 from e3 ▸ z3), f1, ob, ob, nI_1] at body
              have r113 : ∀ t, mm_I π4 (X + 113) t = if t = a.length then nI (tv n B x) else mm_I ν (X + 113) t := fun t => by
                rw [f3 _ (by omega), d3 _ (by omega), iI, if_neg (by omega), c3 _ (by omega), iI, if_neg (by omega), b3 _ (by omega), rI]
                by_cases z : t = a.length
                · rw [if_pos ⟨rfl, z⟩, if_pos z]
                · rw [if_neg (fun z' => z z'.2), if_neg z]
              have r114 : ∀ t, mm_I π4 (X + 114) t = if t = a.length then nI (tv n B (tN n B x)) else mm_I ν (X + 114) t := fun t => by
                rw [f3 _ (by omega), d3 _ (by omega), iI, if_neg (by omega), c3 _ (by omega), rI]
                by_cases z : t = a.length
                · rw [if_pos ⟨rfl, z⟩, if_pos z]
                · rw [if_neg (fun z' => z z'.2), if_neg z, b3 _ (by omega), iI, if_neg (by omega)]
              have r115 : ∀ t, mm_I π4 (X + 115) t = if t = a.length then nI (tv n B (tN n B (tN n B x))) else mm_I ν (X + 115) t := fun t => by
                rw [f3 _ (by omega), d3 _ (by omega), rI]
                by_cases z : t = a.length
                · rw [if_pos ⟨rfl, z⟩, if_pos z]
                · rw [if_neg (fun z' => z z'.2), if_neg z, c3 _ (by omega), iI, if_neg (by omega), b3 _ (by omega), iI, if_neg (by omega)]
              have hla : (a ++ [(tv n B x, tv n B (tN n B x), tv n B (tN n B (tN n B x)))]).length = a.length + 1 := by simp
              obtain ⟨r, ν', w1, w2, w3, w4⟩ := ih (tN n B (tN n B (tN n B (tN n B x)))) (a ++ [(tv n B x, tv n B (tN n B x), tv n B (tN n B (tN n B x)))]) π4 (by omega) (by omega) x4 f2 (fun t y hy => by
                rw [r113, r114, r115]
                by_cases z : t = a.length
                · rw [if_pos z, if_pos z, if_pos z]
                  rw [z, List.getElem?_append_right (Nat.le_refl _), Nat.sub_self] at hy
                  cases hy
                  exact ⟨rfl, rfl, rfl⟩
                · rw [if_neg z, if_neg z, if_neg z]
                  have ht : t < a.length := by
                    have := (List.getElem?_eq_some_iff.mp hy).1
                    omega
                  rw [List.getElem?_append_left ht] at hy
                  exact hw t y hy)
              rw [hla] at w1 w4
              refine ⟨r, ν', by rw [whl_l body]; exact w1, w2, w3, ?_⟩
              have ht : (tk n B (tN n B (tN n B (tN n B x))) == 3) = true := by simpa using z3
              rw [o1, o2, o3, ht, if_pos (by rfl)]
              rcases w4 with ⟨l, l1, l2, l3, l4⟩ | ⟨l1, l2⟩
              · left
                rw [l1]
                refine ⟨_, rfl, ?_, by rw [List.append_assoc] at l3; exact l3, by show a.length + (l.length + 1) ≤ 150; omega⟩
                rw [l2]
                show _ = Sum.inr (Sum.inr (nI (a.length + (l.length + 1)), _))
                rw [show a.length + (l.length + 1) = a.length + 1 + l.length by omega]
              · right
                rw [l1]
                exact ⟨rfl, l2⟩
            · rw [if_neg (show ¬ mm_I π3 (X + 90) 3 = 3 from fun w => z3 (e3 ▸ w))] at body
              have ht : (tk n B (tN n B (tN n B (tN n B x))) == 3) = false := by simpa using z3
              rw [o1, o2, o3, ht]
              exact ⟨_, π3, whl_r body, d2.1, d2.2.1, Or.inr ⟨rfl, Or.inr rfl⟩⟩
end CALLS
