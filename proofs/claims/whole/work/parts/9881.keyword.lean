/-! ===== keywords: the class's keyword ===== -/
theorem ff_at {p : Nat → Bool} {n : Nat} (i : Nat) (hi : i < n) (h : ∀ l, l < i → p l = false) (e : p i = true) : ff p n = some i := ff_some.mpr ⟨hi, e, h⟩
section TOK
variable {X n j : Nat} {B : Nat → Nat} {μ : Mm}
theorem c_rare {p : Nat → Bool} (h : Sh X μ) (hp : ∀ i, i < 13 → f_X6_isWord (X + 3) (mm_S μ i) μ = some (nI (p i).toNat)) (hl : ∀ l, l < 8 → p l = false) : f_X8_rareKeyword (X + 57) μ = some (oI (ff p 12)) := by
  unfold f_X8_rareKeyword
  rw [if_pos (by rw [mk_57 h])]
  rw [rp_57_0 h, ob, hp 8 (by decide), ob]
  cases e8 : p 8 with
  | true =>
    rw [if_neg (by decide), ff_at 8 (by decide) (fun l hl' => by
      exact hl l (by omega)) e8]
    rfl
  | false =>
    rw [if_pos (show nI false.toNat = 0 from rfl)]
    rw [ob, hp 9 (by decide), ob]
    cases e9 : p 9 with
    | true =>
      rw [if_neg (by decide), ff_at 9 (by decide) (fun l hl' => by
        by_cases z8 : l = 8
        · rw [z8]; exact e8
        exact hl l (by omega)) e9]
      rfl
    | false =>
      rw [if_pos (show nI false.toNat = 0 from rfl)]
      rw [ob, hp 10 (by decide), ob]
      cases e10 : p 10 with
      | true =>
        rw [if_neg (by decide), ff_at 10 (by decide) (fun l hl' => by
          by_cases z8 : l = 8
          · rw [z8]; exact e8
          by_cases z9 : l = 9
          · rw [z9]; exact e9
          exact hl l (by omega)) e10]
        rfl
      | false =>
        rw [if_pos (show nI false.toNat = 0 from rfl)]
        rw [ob, hp 11 (by decide), ob]
        cases e11 : p 11 with
        | true =>
          rw [if_neg (by decide), ff_at 11 (by decide) (fun l hl' => by
            by_cases z8 : l = 8
            · rw [z8]; exact e8
            by_cases z9 : l = 9
            · rw [z9]; exact e9
            by_cases z10 : l = 10
            · rw [z10]; exact e10
            exact hl l (by omega)) e11]
          rfl
        | false =>
          rw [if_pos (show nI false.toNat = 0 from rfl)]
          rw [show ff p 12 = none from ff_none.mpr (fun l hl' => by
            by_cases z8 : l = 8
            · rw [z8]; exact e8
            by_cases z9 : l = 9
            · rw [z9]; exact e9
            by_cases z10 : l = 10
            · rw [z10]; exact e10
            by_cases z11 : l = 11
            · rw [z11]; exact e11
            exact hl l (by omega))]
          rfl
theorem c_keyw {p : Nat → Bool} (h : Sh X μ) (hp : ∀ i, i < 13 → f_X6_isWord (X + 3) (mm_S μ i) μ = some (nI (p i).toNat)) : f_X8_keyword (X + 57) μ = some (oI (ff p 12)) := by
  unfold f_X8_keyword
  rw [if_pos (by rw [mk_57 h])]
  rw [rp_57_0 h, ob, hp 0 (by decide), ob]
  cases e0 : p 0 with
  | true =>
    rw [if_neg (by decide), ff_at 0 (by decide) (fun l hl' => by
      omega) e0]
    rfl
  | false =>
    rw [if_pos (show nI false.toNat = 0 from rfl)]
    rw [ob, hp 1 (by decide), ob]
    cases e1 : p 1 with
    | true =>
      rw [if_neg (by decide), ff_at 1 (by decide) (fun l hl' => by
        by_cases z0 : l = 0
        · rw [z0]; exact e0
        omega) e1]
      rfl
    | false =>
      rw [if_pos (show nI false.toNat = 0 from rfl)]
      rw [ob, hp 2 (by decide), ob]
      cases e2 : p 2 with
      | true =>
        rw [if_neg (by decide), ff_at 2 (by decide) (fun l hl' => by
          by_cases z0 : l = 0
          · rw [z0]; exact e0
          by_cases z1 : l = 1
          · rw [z1]; exact e1
          omega) e2]
        rfl
      | false =>
        rw [if_pos (show nI false.toNat = 0 from rfl)]
        rw [ob, hp 3 (by decide), ob]
        cases e3 : p 3 with
        | true =>
          rw [if_neg (by decide), ff_at 3 (by decide) (fun l hl' => by
            by_cases z0 : l = 0
            · rw [z0]; exact e0
            by_cases z1 : l = 1
            · rw [z1]; exact e1
            by_cases z2 : l = 2
            · rw [z2]; exact e2
            omega) e3]
          rfl
        | false =>
          rw [if_pos (show nI false.toNat = 0 from rfl)]
          rw [ob, hp 4 (by decide), ob]
          cases e4 : p 4 with
          | true =>
            rw [if_neg (by decide), ff_at 4 (by decide) (fun l hl' => by
              by_cases z0 : l = 0
              · rw [z0]; exact e0
              by_cases z1 : l = 1
              · rw [z1]; exact e1
              by_cases z2 : l = 2
              · rw [z2]; exact e2
              by_cases z3 : l = 3
              · rw [z3]; exact e3
              omega) e4]
            rfl
          | false =>
            rw [if_pos (show nI false.toNat = 0 from rfl)]
            rw [ob, hp 5 (by decide), ob]
            cases e5 : p 5 with
            | true =>
              rw [if_neg (by decide), ff_at 5 (by decide) (fun l hl' => by
                by_cases z0 : l = 0
                · rw [z0]; exact e0
                by_cases z1 : l = 1
                · rw [z1]; exact e1
                by_cases z2 : l = 2
                · rw [z2]; exact e2
                by_cases z3 : l = 3
                · rw [z3]; exact e3
                by_cases z4 : l = 4
                · rw [z4]; exact e4
                omega) e5]
              rfl
            | false =>
              rw [if_pos (show nI false.toNat = 0 from rfl)]
              rw [ob, hp 6 (by decide), ob]
              cases e6 : p 6 with
              | true =>
                rw [if_neg (by decide), ff_at 6 (by decide) (fun l hl' => by
                  by_cases z0 : l = 0
                  · rw [z0]; exact e0
                  by_cases z1 : l = 1
                  · rw [z1]; exact e1
                  by_cases z2 : l = 2
                  · rw [z2]; exact e2
                  by_cases z3 : l = 3
                  · rw [z3]; exact e3
                  by_cases z4 : l = 4
                  · rw [z4]; exact e4
                  by_cases z5 : l = 5
                  · rw [z5]; exact e5
                  omega) e6]
                rfl
              | false =>
                rw [if_pos (show nI false.toNat = 0 from rfl)]
                rw [ob, hp 7 (by decide), ob]
                cases e7 : p 7 with
                | true =>
                  rw [if_neg (by decide), ff_at 7 (by decide) (fun l hl' => by
                    by_cases z0 : l = 0
                    · rw [z0]; exact e0
                    by_cases z1 : l = 1
                    · rw [z1]; exact e1
                    by_cases z2 : l = 2
                    · rw [z2]; exact e2
                    by_cases z3 : l = 3
                    · rw [z3]; exact e3
                    by_cases z4 : l = 4
                    · rw [z4]; exact e4
                    by_cases z5 : l = 5
                    · rw [z5]; exact e5
                    by_cases z6 : l = 6
                    · rw [z6]; exact e6
                    omega) e7]
                  rfl
                | false =>
                  rw [if_pos (show nI false.toNat = 0 from rfl)]
                  rw [c_rare h hp (fun l hl' => by
                    by_cases z0 : l = 0
                    · rw [z0]; exact e0
                    by_cases z1 : l = 1
                    · rw [z1]; exact e1
                    by_cases z2 : l = 2
                    · rw [z2]; exact e2
                    by_cases z3 : l = 3
                    · rw [z3]; exact e3
                    by_cases z4 : l = 4
                    · rw [z4]; exact e4
                    by_cases z5 : l = 5
                    · rw [z5]; exact e5
                    by_cases z6 : l = 6
                    · rw [z6]; exact e6
                    by_cases z7 : l = 7
                    · rw [z7]; exact e7
                    omega), ob]
end TOK
