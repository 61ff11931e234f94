/-! ===== what a clause tells keeps a town in order ===== -/
section OKT
variable {D : Tn} {a b d e f h v : Nat}
theorem up_s (D : Tn) (a i v k : Nat) : up D a i v a k = if k = i then v else D a k := by
  unfold up
  by_cases e : k = i
  · rw [if_pos ⟨rfl, e⟩, if_pos e]
  · rw [if_neg (fun z => e z.2), if_neg e]
theorem up_n {D : Tn} {a i v r k : Nat} (h : r ≠ a) : up D a i v r k = D r k := if_neg (fun z => h z.1)
theorem up_t (D : Tn) (a i v : Nat) : up D a i v a i = v := if_pos ⟨rfl, rfl⟩
theorem or_p2 {x n p : Nat} (h : p ≠ n) : (x ||| 2 ^ n).testBit p = x.testBit p := by
  rw [Nat.testBit_or, Nat.testBit_two_pow, decide_eq_false (fun z => h z.symm), Bool.or_false]
theorem or_p1 (x n : Nat) : (x ||| 2 ^ n).testBit n = true := by
  rw [Nat.testBit_or, Nat.testBit_two_pow, decide_eq_true rfl, Bool.or_true]
theorem ok_fac (ok : OkT D) (hn : D 0 1 < 12) (ha : a < D 0 0) (hd : d < 28) : OkT (aFac D a d) := by
  obtain ⟨⟨a1, a2, a3⟩, h2, h3, h4, h5, h6⟩ := ok
  refine ⟨⟨a1, hn, a3⟩, h2, h3, h4, fun i hi => ?_, h6⟩
  have e1 : aFac D a d 2 i = if i = D 0 1 then a else D 2 i := up_s D 2 (D 0 1) a i
  have e2 : aFac D a d 3 i = if i = D 0 1 then d else D 3 i := up_s (up D 2 (D 0 1) a) 3 (D 0 1) d i
  replace hi : i < D 0 1 + 1 := hi
  show aFac D a d 2 i < D 0 0 ∧ aFac D a d 3 i < 28
  rw [e1, e2]
  by_cases e : i = D 0 1
  · rw [if_pos e, if_pos e]; exact ⟨ha, hd⟩
  · rw [if_neg e, if_neg e]; exact h5 i (by omega)
theorem ok_nap (ok : OkT D) (hn : D 0 3 < 8) (ha : a < D 0 0) (hd : d < 28) : OkT (aNap D a d) := by
  obtain ⟨⟨a1, a2, a3, a4, a5⟩, h2, h3, h4, h5, h6, h7, h8⟩ := ok
  refine ⟨⟨a1, a2, a3, hn, a5⟩, h2, h3, h4, h5, h6, fun i hi => ?_, h8⟩
  have e1 : aNap D a d 7 i = if i = D 0 3 then a else D 7 i := up_s D 7 (D 0 3) a i
  have e2 : aNap D a d 8 i = if i = D 0 3 then d else D 8 i := up_s (up D 7 (D 0 3) a) 8 (D 0 3) d i
  replace hi : i < D 0 3 + 1 := hi
  show aNap D a d 7 i < D 0 0 ∧ aNap D a d 8 i < 28
  rw [e1, e2]
  by_cases e : i = D 0 3
  · rw [if_pos e, if_pos e]; exact ⟨ha, hd⟩
  · rw [if_neg e, if_neg e]; exact h7 i (by omega)
theorem ok_tal (ok : OkT D) (hn : D 0 2 < 8) (ha : a < D 0 0) (hb : b < D 0 0) (hab : b ≠ a) (he : 1 ≤ e ∧ e ≤ 28) : OkT (aTal D a b e) := by
  obtain ⟨⟨a1, a2, a3, a4⟩, h2, h3, h4, h5, h6, h7⟩ := ok
  refine ⟨⟨a1, a2, hn, a4⟩, h2, h3, h4, h5, fun i hi => ?_, h7⟩
  have e1 : aTal D a b e 4 i = if i = D 0 2 then a else D 4 i := up_s D 4 (D 0 2) a i
  have e2 : aTal D a b e 5 i = if i = D 0 2 then b else D 5 i := up_s (up D 4 (D 0 2) a) 5 (D 0 2) b i
  have e3 : aTal D a b e 6 i = if i = D 0 2 then e else D 6 i := up_s (up (up D 4 (D 0 2) a) 5 (D 0 2) b) 6 (D 0 2) e i
  replace hi : i < D 0 2 + 1 := hi
  show aTal D a b e 4 i < D 0 0 ∧ aTal D a b e 5 i < D 0 0 ∧ aTal D a b e 4 i ≠ aTal D a b e 5 i ∧ 1 ≤ aTal D a b e 6 i ∧ aTal D a b e 6 i ≤ 28
  rw [e1, e2, e3]
  by_cases z : i = D 0 2
  · rw [if_pos z, if_pos z, if_pos z]; exact ⟨ha, hb, fun w => hab w.symm, he⟩
  · rw [if_neg z, if_neg z, if_neg z]; exact h6 i (by omega)
theorem ok_dul (ok : OkT D) (hn : D 0 6 < 8) (ha : a < D 0 0) (hd : d ≤ e) (he : e < 28) : OkT (aDul D a d e) := by
  obtain ⟨⟨a1, a2, a3, a4, a5, a6, a7, a8, a9⟩, h2, h3, h4, h5, h6, h7, h8, h9⟩ := ok
  refine ⟨⟨a1, a2, a3, a4, a5, a6, a7, hn, a9⟩, h2, h3, h4, h5, h6, h7, fun i hi => ?_, h9⟩
  have e1 : aDul D a d e 9 i = if i = D 0 6 then a else D 9 i := up_s D 9 (D 0 6) a i
  have e2 : aDul D a d e 10 i = if i = D 0 6 then d else D 10 i := up_s (up D 9 (D 0 6) a) 10 (D 0 6) d i
  have e3 : aDul D a d e 11 i = if i = D 0 6 then e else D 11 i := up_s (up (up D 9 (D 0 6) a) 10 (D 0 6) d) 11 (D 0 6) e i
  replace hi : i < D 0 6 + 1 := hi
  show aDul D a d e 9 i < D 0 0 ∧ aDul D a d e 10 i ≤ aDul D a d e 11 i ∧ aDul D a d e 11 i < 28
  rw [e1, e2, e3]
  by_cases z : i = D 0 6
  · rw [if_pos z, if_pos z, if_pos z]; exact ⟨ha, hd, he⟩
  · rw [if_neg z, if_neg z, if_neg z]; exact h8 i (by omega)
theorem ok_wis (ok : OkT D) (hn : D 0 9 < 8) (ha : a < D 0 0) (hf : f < 12) (hd : d < 28) (hh : h ≤ 1) : OkT (aWis D h a f d) := by
  obtain ⟨⟨a1, a2, a3, a4, a5, a6, a7, a8, a9, a10, a11, a12⟩, h2, h3, h4, h5, h6, h7, h8, h9, h10⟩ := ok
  refine ⟨⟨a1, a2, a3, a4, a5, a6, a7, a8, a9, a10, hn, a12⟩, h2, h3, h4, h5, h6, h7, h8, fun i hi => ?_, h10⟩
  have e1 : aWis D h a f d 12 i = if i = D 0 9 then a else D 12 i := up_s D 12 (D 0 9) a i
  have e2 : aWis D h a f d 13 i = if i = D 0 9 then f else D 13 i := up_s (up D 12 (D 0 9) a) 13 (D 0 9) f i
  have e3 : aWis D h a f d 14 i = if i = D 0 9 then d else D 14 i := up_s (up (up D 12 (D 0 9) a) 13 (D 0 9) f) 14 (D 0 9) d i
  have e4 : aWis D h a f d 15 i = if i = D 0 9 then h else D 15 i := up_s (up (up (up D 12 (D 0 9) a) 13 (D 0 9) f) 14 (D 0 9) d) 15 (D 0 9) h i
  replace hi : i < D 0 9 + 1 := hi
  show aWis D h a f d 12 i < D 0 0 ∧ aWis D h a f d 13 i < 12 ∧ aWis D h a f d 14 i < 28 ∧ aWis D h a f d 15 i ≤ 1
  rw [e1, e2, e3, e4]
  by_cases z : i = D 0 9
  · rw [if_pos z, if_pos z, if_pos z, if_pos z]; exact ⟨ha, hf, hd, hh⟩
  · rw [if_neg z, if_neg z, if_neg z, if_neg z]; exact h9 i (by omega)
theorem ok_tra (ok : OkT D) (ha : a < D 0 0) (hv : v < 100) : OkT (up (up D 16 a v) 0 10 (D 0 10 ||| 2 ^ a)) := by
  obtain ⟨⟨a1, a2, a3, a4, a5, a6, a7, a8, a9, a10, a11, a12, a13⟩, h2, h3, h4, h5, h6, h7, h8, h9, h10⟩ := ok
  refine ⟨⟨a1, a2, a3, a4, a5, a6, a7, a8, a9, a10, a11, or_lt8 a12 (by omega), a13⟩, h2, h3, h4, h5, h6, h7, h8, h9, fun p hp => ?_⟩
  have e1 : up (up D 16 a v) 0 10 (D 0 10 ||| 2 ^ a) 16 p = if p = a then v else D 16 p := up_s D 16 a v p
  rw [e1]
  by_cases z : p = a
  · rw [if_pos z]; exact hv
  · rw [if_neg z]; exact h10 p hp
theorem ok_law (ok : OkT D) (hv : v < 4096) : OkT (up D 0 4 v) := by
  obtain ⟨⟨a1, a2, a3, a4, a5, a6⟩, h2⟩ := ok
  exact ⟨⟨a1, a2, a3, a4, hv, a6⟩, h2⟩
theorem ok_year (ok : OkT D) (hv : 1 ≤ v ∧ v ≤ 28) : OkT (up D 0 5 v) := by
  obtain ⟨⟨a1, a2, a3, a4, a5, a6, a7, a8⟩, h2⟩ := ok
  exact ⟨⟨a1, a2, a3, a4, a5, hv.1, hv.2, a8⟩, h2⟩
theorem ok_deep (ok : OkT D) (hv : v < 4096) : OkT (up D 0 8 v) := by
  obtain ⟨⟨a1, a2, a3, a4, a5, a6, a7, a8, a9, a10, a11⟩, h2⟩ := ok
  exact ⟨⟨a1, a2, a3, a4, a5, a6, a7, a8, a9, hv, a11⟩, h2⟩
theorem ok_cl1 (ok : OkT D) (hn : D 0 12 < 900) : OkT (up D 0 12 (D 0 12 + 1)) := by
  obtain ⟨⟨a1, a2, a3, a4, a5, a6, a7, a8, a9, a10, a11, a12, a13, a14⟩, h2⟩ := ok
  exact ⟨⟨a1, a2, a3, a4, a5, a6, a7, a8, a9, a10, a11, a12, a13, hn⟩, h2⟩
theorem ok_per (ok : OkT D) (hn : D 0 0 < 8) (al : Bool) : OkT (if al then up (up D 0 0 (D 0 0 + 1)) 0 7 (D 0 7 ||| 2 ^ D 0 0) else up D 0 0 (D 0 0 + 1)) := by
  obtain ⟨⟨a1, a2, a3, a4, a5, a6, a7, a8, a9, a10⟩, h2, h3, h4, h5, h6, h7, h8, h9, h10⟩ := ok
  have p2 : (2 : Nat) ^ (D 0 0 + 1) = 2 * 2 ^ D 0 0 := by rw [Nat.pow_succ, Nat.mul_comm]
  have w5 : ∀ i, i < D 0 1 → D 2 i < D 0 0 + 1 ∧ D 3 i < 28 := fun i hi => ⟨by have := (h5 i hi).1; omega, (h5 i hi).2⟩
  have w6 : ∀ i, i < D 0 2 → D 4 i < D 0 0 + 1 ∧ D 5 i < D 0 0 + 1 ∧ D 4 i ≠ D 5 i ∧ 1 ≤ D 6 i ∧ D 6 i ≤ 28 := fun i hi => ⟨by have := (h6 i hi).1; omega, by have := (h6 i hi).2.1; omega, (h6 i hi).2.2⟩
  have w7 : ∀ i, i < D 0 3 → D 7 i < D 0 0 + 1 ∧ D 8 i < 28 := fun i hi => ⟨by have := (h7 i hi).1; omega, (h7 i hi).2⟩
  have w8 : ∀ i, i < D 0 6 → D 9 i < D 0 0 + 1 ∧ D 10 i ≤ D 11 i ∧ D 11 i < 28 := fun i hi => ⟨by have := (h8 i hi).1; omega, (h8 i hi).2⟩
  have w9 : ∀ i, i < D 0 9 → D 12 i < D 0 0 + 1 ∧ D 13 i < 12 ∧ D 14 i < 28 ∧ D 15 i ≤ 1 := fun i hi => ⟨by have := (h9 i hi).1; omega, (h9 i hi).2⟩
  cases al with
  | false =>
    rw [if_neg (by decide)]
    refine ⟨⟨hn, a2, a3, a4, a5, a6, a7, a8, ?_, a10⟩, fun p hp => ?_, h3, h4, w5, w6, w7, w8, w9, h10⟩
    · show D 0 7 < 2 ^ (D 0 0 + 1)
      omega
    · obtain ⟨g1, g2, g3⟩ := h2 p hp
      exact ⟨show D 1 p ≤ D 0 0 + 1 by omega, fun (z : D 0 0 + 1 ≤ p) => g2 (by omega), g3⟩
  | true =>
    rw [if_pos rfl]
    refine ⟨⟨hn, a2, a3, a4, a5, a6, a7, a8, ?_, a10⟩, fun p hp => ?_, h3, h4, w5, w6, w7, w8, w9, h10⟩
    · show D 0 7 ||| 2 ^ D 0 0 < 2 ^ (D 0 0 + 1)
      exact Nat.or_lt_two_pow (by omega) (by have := Nat.two_pow_pos (D 0 0); omega)
    · obtain ⟨g1, g2, g3⟩ := h2 p hp
      refine ⟨show D 1 p ≤ D 0 0 + 1 by omega, fun (z : D 0 0 + 1 ≤ p) => g2 (by omega), fun (z : D 1 p ≠ 0) => ?_⟩
      obtain ⟨q1, q2, q3⟩ := g3 z
      have : p < D 0 0 := by
        by_cases w : D 0 0 ≤ p
        · exact absurd (g2 w) z
        · omega
      show (D 0 7 ||| 2 ^ D 0 0).testBit p = false ∧ (D 0 7 ||| 2 ^ D 0 0).testBit (D 1 p - 1) = false ∧ D 1 p ≠ p + 1
      rw [or_p2 (by omega), or_p2 (by omega)]
      exact ⟨q1, q2, q3⟩
theorem ok_dre (ok : OkT D) (ha : a < D 0 0) (hb : b < D 0 0) (la : (D 0 7).testBit a = false) (lb : (D 0 7).testBit b = false) (h1a : D 1 a = 0) (hab : b ≠ a) (hdb : (D 0 11).testBit b = false) : OkT (up (up D 1 a (b + 1)) 0 11 (D 0 11 ||| 2 ^ b)) := by
  obtain ⟨⟨a1, a2, a3, a4, a5, a6, a7, a8, a9, a10, a11, a12, a13, a14⟩, h2, h3, h4, h5⟩ := ok
  have e1 : ∀ p, up (up D 1 a (b + 1)) 0 11 (D 0 11 ||| 2 ^ b) 1 p = if p = a then b + 1 else D 1 p := fun p => up_s D 1 a (b + 1) p
  have nb : ∀ q, q < 8 → D 1 q ≠ b + 1 := fun q hq z => by
    have := h4 b
    rw [hdb] at this
    have := anyb_f.mp this.symm q hq
    simp [z] at this
  refine ⟨⟨a1, a2, a3, a4, a5, a6, a7, a8, a9, a10, a11, a12, or_lt8 a13 (by omega), a14⟩, fun p hp => ?_, fun p q hp hq => ?_, fun q => ?_, h5⟩
  · rw [e1]
    show (if p = a then b + 1 else D 1 p) ≤ D 0 0 ∧ (D 0 0 ≤ p → (if p = a then b + 1 else D 1 p) = 0) ∧ ((if p = a then b + 1 else D 1 p) ≠ 0 → (D 0 7).testBit p = false ∧ (D 0 7).testBit ((if p = a then b + 1 else D 1 p) - 1) = false ∧ (if p = a then b + 1 else D 1 p) ≠ p + 1)
    by_cases z : p = a
    · rw [if_pos z, z]
      exact ⟨hb, fun w => by omega, fun _ => ⟨la, lb, by omega⟩⟩
    · rw [if_neg z]
      exact h2 p hp
  · rw [e1, e1]
    by_cases z : p = a
    · rw [if_pos z]
      by_cases z2 : q = a
      · intro _ _; omega
      · rw [if_neg z2]
        intro _ w
        exact absurd w.symm (nb q hq)
    · rw [if_neg z]
      by_cases z2 : q = a
      · rw [if_pos z2]
        intro _ w
        exact absurd w (nb p hp)
      · rw [if_neg z2]
        exact h3 p q hp hq
  · show (D 0 11 ||| 2 ^ b).testBit q = _
    by_cases z : q = b
    · rw [z, or_p1]
      symm
      refine anyb_t.mpr ⟨a, by omega, ?_⟩
      rw [e1, if_pos rfl]
      simp
    · rw [or_p2 z, h4 q]
      have key : ∀ m, anyb (fun p => D 1 p == q + 1) m = anyb (fun p => up (up D 1 a (b + 1)) 0 11 (D 0 11 ||| 2 ^ b) 1 p == q + 1) m := by
        intro m
        induction m with
        | zero => rfl
        | succ m ih =>
          show (anyb _ m || _) = (anyb _ m || _)
          rw [ih]
          dsimp only
          rw [e1]
          by_cases z2 : m = a
          · rw [if_pos z2, z2, h1a]
            have : (b + 1 == q + 1) = false := by simp; omega
            rw [this]
            rfl
          · rw [if_neg z2]
      exact key 8
end OKT
section SPEC
variable {n : Nat} {B : Nat → Nat}
/-- a clause leaves the draft in order, and goes on -/
theorem clw_ok {t : Nat} {s s' : Drf} {x y : Nat} (ok : OkT s.1) (hx : x ≤ n) (ht : t < 13) (h : clw n B t s x = .inr (s', y)) : OkT s'.1 ∧ tN n B x ≤ y ∧ y ≤ n ∧ s'.1 0 12 = s.1 0 12 := by
  have hx1 := tN_le (B := B) hx
  have hx2 := tN_le (B := B) hx1
  have hx3 := tN_le (B := B) hx2
  have hx4 := tN_le (B := B) hx3
  have g2 := tN_ge (B := B) hx1
  have g3 := tN_ge (B := B) hx2
  have g4 := tN_ge (B := B) hx3
  have o1 := ok.1
  unfold clw at h
  by_cases t0 : t = 0
  · rw [if_pos t0] at h
    by_cases r : s.1 0 0 = 8
    · rw [if_pos r] at h; cases h
    · rw [if_neg r] at h
      unfold sPer at h
      split at h
      · split at h
        · split at h
          · cases h
            exact ⟨ok_per ok (by omega) true, by omega, by omega, rfl⟩
          · cases h
            exact ⟨ok_per ok (by omega) false, by omega, by omega, rfl⟩
        · cases h
      · cases h
  rw [if_neg t0] at h
  by_cases t1 : t = 1
  · rw [if_pos t1] at h
    unfold sDre at h
    obtain ⟨a, e1, h⟩ := eb_i h
    obtain ⟨-, -, e1⟩ := rdN_r e1
    split at h
    · cases h
    · rename_i la
      split at h
      · rename_i h1a
        obtain ⟨b, e2, h⟩ := eb_i h
        obtain ⟨-, -, e2⟩ := rdN_r e2
        split at h
        · cases h
        · rename_i lb
          split at h
          · cases h
          · rename_i hab
            cases h
            exact ⟨ok_dre ok e1 e2 (by simpa using la) (by simpa using lb) h1a (fun z => hab (Or.inl z)) (by cases z : (s.1 0 11).testBit b with | false => rfl | true => exact absurd (Or.inr z) hab), by omega, by omega, rfl⟩
      · cases h
  rw [if_neg t1] at h
  by_cases t2 : t = 2
  · rw [if_pos t2] at h
    split at h
    · cases h
    · unfold sFac at h
      obtain ⟨a, e1, h⟩ := eb_i h
      obtain ⟨-, -, e1⟩ := rdN_r e1
      obtain ⟨d, e2, h⟩ := eb_i h
      obtain ⟨-, -, e2⟩ := rdB_r e2
      cases h
      exact ⟨ok_fac ok (by omega) e1 (by omega), by omega, by omega, rfl⟩
  rw [if_neg t2] at h
  by_cases t3 : t = 3
  · rw [if_pos t3] at h
    split at h
    · cases h
    · unfold sTal at h
      obtain ⟨a, e1, h⟩ := eb_i h
      obtain ⟨-, -, e1⟩ := rdN_r e1
      obtain ⟨b, e2, h⟩ := eb_i h
      obtain ⟨-, -, e2⟩ := rdN_r e2
      split at h
      · cases h
      · obtain ⟨d, e3, h⟩ := eb_i h
        obtain ⟨-, -, e3⟩ := rdB_r e3
        cases h
        exact ⟨ok_tal ok (by omega) e1 e2 (by assumption) e3, by omega, by omega, rfl⟩
  rw [if_neg t3] at h
  by_cases t4 : t = 4
  · rw [if_pos t4] at h
    split at h
    · cases h
    · unfold sNap at h
      obtain ⟨a, e1, h⟩ := eb_i h
      obtain ⟨-, -, e1⟩ := rdN_r e1
      obtain ⟨d, e2, h⟩ := eb_i h
      obtain ⟨-, -, e2⟩ := rdB_r e2
      cases h
      exact ⟨ok_nap ok (by omega) e1 (by omega), by omega, by omega, rfl⟩
  rw [if_neg t4] at h
  by_cases t5 : t = 5
  · rw [if_pos t5] at h
    split at h
    · cases h
    · unfold sDul at h
      obtain ⟨a, e1, h⟩ := eb_i h
      obtain ⟨-, -, e1⟩ := rdN_r e1
      obtain ⟨d, e2, h⟩ := eb_i h
      obtain ⟨-, -, e2⟩ := rdB_r e2
      obtain ⟨f, e3, h⟩ := eb_i h
      obtain ⟨-, -, e3⟩ := rdB_r e3
      cases h
      exact ⟨ok_dul ok (by omega) e1 (by omega) (by omega), by omega, by omega, rfl⟩
  rw [if_neg t5] at h
  have wis : ∀ w, w ≤ 1 → (if s.1 0 9 = 8 then .inl (4, tP n B x) else sWis n B w s (tN n B x)) = (.inr (s', y) : Er (Drf × Nat)) → OkT s'.1 ∧ tN n B x ≤ y ∧ y ≤ n ∧ s'.1 0 12 = s.1 0 12 := by
    intro w hw h
    split at h
    · cases h
    · unfold sWis at h
      obtain ⟨a, e1, h⟩ := eb_i h
      obtain ⟨-, -, e1⟩ := rdN_r e1
      obtain ⟨d, e2, h⟩ := eb_i h
      obtain ⟨-, -, e2⟩ := rdB_r e2
      obtain ⟨f, e3, h⟩ := eb_i h
      obtain ⟨-, -, e3⟩ := rdB_r e3
      cases h
      exact ⟨ok_wis ok (by omega) e1 (by omega) (by omega) hw, by omega, by omega, rfl⟩
  by_cases t9 : t = 9
  · rw [if_pos t9] at h
    exact wis 0 (by omega) h
  rw [if_neg t9] at h
  by_cases t10 : t = 10
  · rw [if_pos t10] at h
    exact wis 1 (by omega) h
  rw [if_neg t10] at h
  by_cases t11 : t = 11
  · rw [if_pos t11] at h
    unfold sTra at h
    obtain ⟨a, e1, h⟩ := eb_i h
    obtain ⟨-, -, e1⟩ := rdN_r e1
    split at h
    · cases h
    · obtain ⟨d, e2, h⟩ := eb_i h
      obtain ⟨-, -, e2⟩ := rdB_r e2
      cases h
      exact ⟨ok_tra ok e1 (by omega), by omega, by omega, rfl⟩
  rw [if_neg t11] at h
  split at h
  · cases h
  · split at h
    · cases h
    · unfold sSet at h
      obtain ⟨v, e1, h⟩ := eb_i h
      cases h
      by_cases t6 : t = 6
      · rw [if_neg (by omega)] at e1
        obtain ⟨-, -, e1⟩ := rdB_r e1
        rw [if_pos t6]
        exact ⟨ok_law ok (by omega), by omega, by omega, rfl⟩
      · rw [if_neg t6]
        by_cases t7 : t = 7
        · rw [if_pos t7] at e1
          obtain ⟨-, -, e1⟩ := rdB_r e1
          rw [if_pos t7]
          exact ⟨ok_year ok e1, by omega, by omega, rfl⟩
        · rw [if_neg t7] at e1
          obtain ⟨-, -, e1⟩ := rdB_r e1
          rw [if_neg t7]
          exact ⟨ok_deep ok (by omega), by omega, by omega, rfl⟩
theorem tQ_lt {x t : Nat} (h : tQ n B x = some t) : tk n B x = 1 ∧ t < 13 ∧ kwd B (tP n B x) (tN n B x - tP n B x) = some t := by
  unfold tQ at h
  by_cases e : tk n B x = 1
  · rw [if_pos e] at h
    exact ⟨e, (ff_some.mp h).1, h⟩
  · rw [if_neg e] at h; cases h
theorem cls_ok {s s' : Drf} {x y : Nat} (ok : OkT s.1) (hx : x ≤ n) (h : cls n B s x = .inr (s', y)) : OkT s'.1 ∧ tN n B x ≤ y ∧ y ≤ n ∧ s'.1 0 12 = s.1 0 12 := by
  unfold cls at h
  cases e : tQ n B x with
  | none => rw [e] at h; cases h
  | some t =>
    rw [e] at h
    exact clw_ok ok hx (tQ_lt e).2.1 h
theorem mkr_ok {s s' : Drf} {x y : Nat} (ok : OkT s.1) (hx : x ≤ n) (h : mkr n B (cls n B s x) = .inr (s', y)) : OkT s'.1 ∧ tN n B x ≤ y ∧ y ≤ n ∧ s'.1 0 12 = s.1 0 12 := by
  unfold mkr at h
  obtain ⟨⟨s1, z⟩, e1, h⟩ := eb_i h
  obtain ⟨k1, k2, k3, k4⟩ := cls_ok ok hx e1
  split at h
  · cases h
    have := tN_ge (B := B) k3
    have := tN_le (B := B) k3
    exact ⟨k1, show tN n B x ≤ tN n B z by omega, show tN n B z ≤ n by omega, k4⟩
  · cases h
end SPEC
