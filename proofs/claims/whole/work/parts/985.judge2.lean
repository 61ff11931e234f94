/-! ===== judge: the class ===== -/
section CALLS
variable {b L : Nat} {xs : Nat → Int32} {X i c : Nat} {s : Sv} {μ ν : Mm}
theorem okn_d {n lim x : Nat} {B : Nat → Nat} (h : okn n B lim x = true) : tk n B x = 2 ∧ tv n B x ≤ lim := by
  unfold okn at h
  simp at h
  exact h
theorem neg_lt : ((-1 : Int32) < 0) = True := by decide
theorem nI_nlt0 {a : Nat} (h : a < 2 ^ 31) : ¬ nI a < (0 : Int32) := nI_pos h
theorem c_bk : ∀ k x bd m ν, m + k = 151 → 6 * m ≤ x → x ≤ s.2.2.1 → PS X i c s μ ν → mm_I ν (X + 3) 1 = nI x → (∀ j, bd = some j → j < 1000) → ∃ r ν', whl (f_X10_judgedBook_L22 X) (oI bd, nI m, ν) = some r ∧ IC X i c s ν' ∧ ChC X μ ν' ∧ ((∃ l, bkL s.2.2.1 s.2.2.2.1 k x = some l ∧ m + l.length ≤ 150 ∧ r = .inl (oI (fbad (rgt s.1 (dr s.1 s.2.1)) bd m l), nI (m + l.length), ν') ∧ ∀ j, fbad (rgt s.1 (dr s.1 s.2.1)) bd m l = some j → j < 1000) ∨ (bkL s.2.2.1 s.2.2.2.1 k x = none ∧ (r = .inr (.inl ν') ∨ r = .inr (.inr ν')))) := by
  intro k
  induction k with
  | zero => intro x bd m ν h1 h2 h3 hP; have := hP.1.2.2.1.1; omega
  | succ k ih =>
    intro x bd m ν hm h6 hx hP hpos hbd
    have n9 := hP.1.2.2.1.1
    obtain ⟨ν1, a1, a2, a3, a4, a5⟩ := c_adv4 hP hpos hx
    have x1 := tN_le (B := s.2.2.2.1) hx
    obtain ⟨ν2, b1, b2, b3, b4, b5⟩ := c_adv4 a2 a3 x1
    have x2 := tN_le (B := s.2.2.2.1) x1
    obtain ⟨ν3, c1, c2, c3, c4, c5⟩ := c_adv4 b2 b3 x2
    have x3 := tN_le (B := s.2.2.2.1) x2
    obtain ⟨ν4, d1, d2, d3, d4, d5⟩ := c_adv4 c2 c3 x3
    have x4 := tN_le (B := s.2.2.2.1) x3
    have n1 : f_X10_bookNumber X (27 : Int32) ν1 = _ := c_bkN (lim := 27) a2.1.1.1 (by decide) a4 a5
    have n2 : f_X10_bookNumber X (7 : Int32) ν2 = _ := c_bkN (lim := 7) b2.1.1.1 (by decide) b4 b5
    have n3 : f_X10_bookNumber X (11 : Int32) ν3 = _ := c_bkN (lim := 11) c2.1.1.1 (by decide) c4 c5
    have hk0 := tk_le (n := s.2.2.1) (B := s.2.2.2.1) (x := x)
    have hk3 := tk_le (n := s.2.2.1) (B := s.2.2.2.1) (x := tN s.2.2.1 s.2.2.2.1 (tN s.2.2.1 s.2.2.2.1 (tN s.2.2.1 s.2.2.2.1 x)))
    obtain ⟨z, hz⟩ : ∃ z, z = f_X10_judgedBook_L22 X (oI bd, nI m, ν) := ⟨_, rfl⟩
    have body := hz
    simp only [f_X10_judgedBook_L22] at body
    rw [if_neg (by rw [show (900 : Int32) = nI 900 from rfl, nI_le_i (by omega) (by omega)]; omega), rp_0_1 hP.1.1.1, ob, a1, ob, rp_0_1 a2.1.1.1, ob, rf_3 a2.1.1.1, ob, a4] at body
    unfold bkL
    by_cases e0 : tk s.2.2.1 s.2.2.2.1 x = 0
    · rw [e0, if_pos (show nI 0 = 0 from rfl)] at body
      rw [if_pos e0]
      exact ⟨_, ν1, whl_r (hz.symm.trans body), a2.1, a2.2.1, Or.inl ⟨[], rfl, by show m + 0 ≤ 150; omega, rfl, hbd⟩⟩
    · rw [if_neg (by rw [nI_z (by omega)]; exact e0), n1, ob, ob, b1, ob, n2, ob, rp_0_1 b2.1.1.1, ob, c1, ob, n3, ob, rp_0_1 c2.1.1.1, ob, d1, ob, rp_0_1 d2.1.1.1, ob, rf_3 d2.1.1.1, ob, d4] at body
      rw [if_neg e0]
      have bad : ∀ y : Mm, z = some (.inr (.inr (.inl ν4))) → ∃ r ν', whl (f_X10_judgedBook_L22 X) (oI bd, nI m, ν) = some r ∧ IC X i c s ν' ∧ ChC X μ ν' ∧ ((∃ l, (none : Option (List (Nat × Nat × Nat))) = some l ∧ m + l.length ≤ 150 ∧ r = .inl (oI (fbad (rgt s.1 (dr s.1 s.2.1)) bd m l), nI (m + l.length), ν') ∧ ∀ j, fbad (rgt s.1 (dr s.1 s.2.1)) bd m l = some j → j < 1000) ∨ ((none : Option (List (Nat × Nat × Nat))) = none ∧ (r = .inr (.inl ν') ∨ r = .inr (.inr ν')))) := fun _ hb => ⟨_, ν4, whl_r (hz.symm.trans hb), d2.1, d2.2.1, Or.inr ⟨rfl, Or.inl rfl⟩⟩
      cases o1 : okn s.2.2.1 s.2.2.2.1 27 x with
      | false =>
        rw [o1, if_neg (show ¬ (false = true) by decide)] at body
        exact bad ν (body.trans (if_pos (by decide)))
      | true =>
        obtain ⟨q1, q2⟩ := okn_d o1
        rw [o1, if_pos rfl, if_neg (nI_nlt0 (by omega))] at body
        cases o2 : okn s.2.2.1 s.2.2.2.1 7 (tN s.2.2.1 s.2.2.2.1 x) with
        | false =>
          rw [o2, if_neg (show ¬ (false = true) by decide)] at body
          exact bad ν (body.trans (if_pos (by decide)))
        | true =>
          obtain ⟨q3, q4⟩ := okn_d o2
          rw [o2, if_pos rfl, if_neg (nI_nlt0 (by omega))] at body
          cases o3 : okn s.2.2.1 s.2.2.2.1 11 (tN s.2.2.1 s.2.2.2.1 (tN s.2.2.1 s.2.2.2.1 x)) with
          | false =>
            rw [o3, if_neg (show ¬ (false = true) by decide)] at body
            exact bad ν (body.trans (if_pos (by decide)))
          | true =>
            obtain ⟨q5, q6⟩ := okn_d o3
            rw [o3, if_pos rfl, if_neg (nI_nlt0 (by omega))] at body
            by_cases e3 : tk s.2.2.1 s.2.2.2.1 (tN s.2.2.1 s.2.2.2.1 (tN s.2.2.1 s.2.2.2.1 (tN s.2.2.1 s.2.2.2.1 x))) = 3
            · have gap := act_gap hx q1 q3 q5 e3
              rw [e3, if_pos (show nI 3 = 3 from rfl)] at body
              have step : ∃ ν5, z = some (.inl (oI (nxb (rgt s.1 (dr s.1 s.2.1)) bd m (tv s.2.2.1 s.2.2.2.1 x, tv s.2.2.1 s.2.2.2.1 (tN s.2.2.1 s.2.2.2.1 x), tv s.2.2.1 s.2.2.2.1 (tN s.2.2.1 s.2.2.2.1 (tN s.2.2.1 s.2.2.2.1 x)))), nI (m + 1), ν5)) ∧ PS X i c s μ ν5 ∧ ∀ k, mm_I ν5 (X + 3) k = mm_I ν4 (X + 3) k := by
                cases bd with
                | some j =>
                  have hj := hbd j rfl
                  rw [if_neg (show ¬ oI (some j) = (-1 : Int32) from neg1_ne (by omega))] at body
                  unfold f_X10_judgedBook_J151 at body
                  rw [ob, nI_1] at body
                  exact ⟨ν4, body, d2, fun _ => rfl⟩
                | none =>
                  obtain ⟨ν5, r1, r2, r3⟩ := c_actR d2 (show tv s.2.2.1 s.2.2.2.1 x < 28 by omega) (show tv s.2.2.1 s.2.2.2.1 (tN s.2.2.1 s.2.2.2.1 x) < 8 by omega) (show tv s.2.2.1 s.2.2.2.1 (tN s.2.2.1 s.2.2.2.1 (tN s.2.2.1 s.2.2.2.1 x)) < 12 by omega)
                  rw [if_pos (show oI none = (-1 : Int32) from rfl), r1, ob] at body
                  unfold f_X10_judgedBook_J151 at body
                  rw [ob, nI_1] at body
                  refine ⟨ν5, ?_, r2, r3⟩
                  rw [body]
                  unfold nxb
                  cases rgt s.1 (dr s.1 s.2.1) (tv s.2.2.1 s.2.2.2.1 x, tv s.2.2.1 s.2.2.2.1 (tN s.2.2.1 s.2.2.2.1 x), tv s.2.2.1 s.2.2.2.1 (tN s.2.2.1 s.2.2.2.1 (tN s.2.2.1 s.2.2.2.1 x))) <;> rfl
              obtain ⟨ν5, s1, s2, s3⟩ := step
              obtain ⟨r, ν', w1, w2, w3, w4⟩ := ih (tN s.2.2.1 s.2.2.2.1 (tN s.2.2.1 s.2.2.2.1 (tN s.2.2.1 s.2.2.2.1 (tN s.2.2.1 s.2.2.2.1 x)))) (nxb (rgt s.1 (dr s.1 s.2.1)) bd m (tv s.2.2.1 s.2.2.2.1 x, tv s.2.2.1 s.2.2.2.1 (tN s.2.2.1 s.2.2.2.1 x), tv s.2.2.1 s.2.2.2.1 (tN s.2.2.1 s.2.2.2.1 (tN s.2.2.1 s.2.2.2.1 x)))) (m + 1) ν5 (by omega) (by omega) x4 s2 (by rw [s3]; exact d3) (fun j hj => by
                unfold nxb at hj
                cases bd with
                | some j' => cases hj; exact hbd j rfl
                | none =>
                  replace hj : (if rgt s.1 (dr s.1 s.2.1) (tv s.2.2.1 s.2.2.2.1 x, tv s.2.2.1 s.2.2.2.1 (tN s.2.2.1 s.2.2.2.1 x), tv s.2.2.1 s.2.2.2.1 (tN s.2.2.1 s.2.2.2.1 (tN s.2.2.1 s.2.2.2.1 x))) then none else some m) = some j := hj
                  split at hj
                  · cases hj
                  · cases hj; omega)
              refine ⟨r, ν', by rw [whl_l (hz.symm.trans s1)]; exact w1, w2, w3, ?_⟩
              have ht : (tk s.2.2.1 s.2.2.2.1 (tN s.2.2.1 s.2.2.2.1 (tN s.2.2.1 s.2.2.2.1 (tN s.2.2.1 s.2.2.2.1 x))) == 3) = true := by simpa using e3
              rw [ht, if_pos (by rfl)]
              rcases w4 with ⟨l, l1, l2, l3, l4⟩ | ⟨l1, l2⟩
              · left
                rw [l1]
                refine ⟨_, rfl, by show m + (l.length + 1) ≤ 150; omega, ?_, l4⟩
                rw [l3]
                show _ = Sum.inl (_, nI (m + (l.length + 1)), _)
                rw [show m + (l.length + 1) = m + 1 + l.length by omega]
                rfl
              · right
                rw [l1]
                exact ⟨rfl, l2⟩
            · rw [if_neg (by rw [show (3 : Int32) = nI 3 from rfl, nI_eq_i (by omega) (by omega)]; exact e3)] at body
              have ht : (tk s.2.2.1 s.2.2.2.1 (tN s.2.2.1 s.2.2.2.1 (tN s.2.2.1 s.2.2.2.1 (tN s.2.2.1 s.2.2.2.1 x))) == 3) = false := by simpa using e3
              rw [ht]
              exact bad ν body
/-- the answer to a book -/
def bkA (T : Tn) (d : Nat → Nat) (n : Nat) (B : Nat → Nat) : Int32 := match bkL n B 151 0 with
  | some l => jdg (fbad (rgt T d) none 0 l) l.length
  | none => -1000
theorem c_judge (h : IC X i c s μ) : ∃ ν, f_X10_judgedBook X μ = some (bkA s.1 (dr s.1 s.2.1) s.2.2.1 s.2.2.2.1, ν) ∧ IC X i c s ν ∧ ChC X μ ν := by
  have h1 := h.1.1
  obtain ⟨ok, ht, hct, -, -, h15⟩ := h.2.1
  obtain ⟨g1, g2⟩ := sp_tr h s.2.1 ht
  have hi : ∀ q, q ≠ X + 62 → q ≠ X + 63 → mm_I (m_tr X (dr s.1 s.2.1) μ) q = mm_I μ q := fun q h1 h2 => by unfold m_tr; rw [rA, if_neg h1, rA, if_neg h2]
  have hIC : IC X i c s (m_tr X (dr s.1 s.2.1) μ) := IC_scr (by rfl) (by rfl) (fun q k1 k2 k3 => hi q (fun e => k1 (by unfold scr; omega)) (fun e => k1 (by unfold scr; omega))) (by rw [hi X (by omega) (by omega)]) (fun q _ _ _ => by rfl) h
  have hCh : ChC X μ (m_tr X (dr s.1 s.2.1) μ) := ⟨fun q hq => hi q (by unfold inM at hq; omega) (by unfold inM at hq; omega), fun q hq => by rfl, fun q hq => ⟨hi q (by omega) (by omega), rfl⟩⟩
  unfold f_X10_judgedBook f_X6_rewind
  rw [if_pos (by rw [mk_0 h1]), rp_0_3 h1, ob, rf_0 h1, ob, h15, g1, ob]
  generalize m_tr X (dr s.1 s.2.1) μ = μ0 at g2 hIC hCh ⊢
  have hF : Fr3 X μ0 (ms_I μ0 (X + 3) 1 0) := Fr3_I
  obtain ⟨i1, i2⟩ := IC_f3 hIC hF
  obtain ⟨r, ν, a1, a2, a3, a4⟩ := c_bk (μ := μ) (s := s) (i := i) (c := c) 151 0 none 0 (ms_I μ0 (X + 3) 1 0) rfl (by decide) (Nat.zero_le _) ⟨i1, ChC_t hCh i2, sp_f3 g2 hF⟩ (by rw [rI, if_pos ⟨rfl, rfl⟩]; rfl) (fun j hj => by cases hj)
  replace a1 : whl (f_X10_judgedBook_L22 X) ((-1 : Int32), (0 : Int32), ms_I μ0 (X + 3) 1 0) = some r := a1
  rw [rp_0_1 hIC.1.1, ob, if_pos (by rw [mk_3 hIC.1.1]), wf_3 hIC.1.1, ob, ob, a1, ob]
  refine ⟨ν, ?_, a2, a3⟩
  unfold bkA
  rcases a4 with ⟨l, l1, l2, rfl, l4⟩ | ⟨l1, rfl | rfl⟩
  · rw [l1]
    show f_X10_judgedBook_J46 (oI (fbad (rgt s.1 (dr s.1 s.2.1)) none 0 l)) (nI (0 + l.length)) ν = some (jdg (fbad (rgt s.1 (dr s.1 s.2.1)) none 0 l) l.length, ν)
    unfold f_X10_judgedBook_J46
    rw [Nat.zero_add]
    cases e : fbad (rgt s.1 (dr s.1 s.2.1)) none 0 l with
    | none => rw [if_pos (show oI none = (-1 : Int32) from rfl)]; rfl
    | some j =>
      have := l4 j e
      rw [if_neg (show ¬ oI (some j) = (-1 : Int32) from neg1_ne (by omega))]; rfl
  · rw [l1]; rfl
  · rw [l1]; rfl
end CALLS
