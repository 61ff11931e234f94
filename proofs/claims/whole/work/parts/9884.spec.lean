/-! ===== a town's text: what it tells, in the abstract ===== -/
def tP (n : Nat) (B : Nat → Nat) (x : Nat) : Nat := till isB n B x
def tW (n : Nat) (B : Nat → Nat) (x : Nat) : Int64 := lN (wv B (tP n B x) (tN n B x - tP n B x))
def tQ (n : Nat) (B : Nat → Nat) (x : Nat) : Option Nat := if tk n B x = 1 then kwd B (tP n B x) (tN n B x - tP n B x) else none
/-- one cell of a town told anew -/
def up (D : Tn) (a i v : Nat) : Tn := fun r k => if r = a ∧ k = i then v else D r k
/-- the draft, the names, what has been told once -/
abbrev Drf : Type := Tn × (Nat → Int64) × (Nat → Bool)
abbrev Er (α : Type) : Type := (Nat × Nat) ⊕ α
def eb {α β : Type} (r : Er α) (f : α → Er β) : Er β := match r with
  | .inl e => .inl e
  | .inr a => f a
def nmd (s : Drf) (w : Int64) : Option Nat := ff (fun k => s.2.1 k == w) (s.1 0 0)
section SPEC
variable (n : Nat) (B : Nat → Nat)
def rdN (s : Drf) (x : Nat) : Er Nat := if tk n B x = 1 then (match nmd s (tW n B x) with
  | some p => .inr p
  | none => .inl (5, tP n B x)) else .inl (1, tP n B x)
def rdB (lo hi x : Nat) : Er Nat := if tk n B x = 2 then (if lo ≤ tv n B x ∧ tv n B x ≤ hi then .inr (tv n B x) else .inl (2, tP n B x)) else .inl (1, tP n B x)
def sPer (s : Drf) (x : Nat) : Er (Drf × Nat) := if tk n B x = 1 then (if nmd s (tW n B x) = none then (if tQ n B (tN n B x) = some 12 then .inr ((up (up s.1 0 0 (s.1 0 0 + 1)) 0 7 (s.1 0 7 ||| 2 ^ s.1 0 0), u1 s.2.1 (s.1 0 0) (tW n B x), s.2.2), tN n B (tN n B x)) else .inr ((up s.1 0 0 (s.1 0 0 + 1), u1 s.2.1 (s.1 0 0) (tW n B x), s.2.2), tN n B x)) else .inl (3, tP n B x)) else .inl (1, tP n B x)
def sDre (s : Drf) (x : Nat) : Er (Drf × Nat) := eb (rdN n B s x) fun a => if (s.1 0 7).testBit a then .inl (5, tP n B x) else if s.1 1 a = 0 then (eb (rdN n B s (tN n B x)) fun b => if (s.1 0 7).testBit b then .inl (5, tP n B (tN n B x)) else if b = a ∨ (s.1 0 11).testBit b = true then .inl (3, tP n B (tN n B x)) else .inr ((up (up s.1 1 a (b + 1)) 0 11 (s.1 0 11 ||| 2 ^ b), s.2), tN n B (tN n B x))) else .inl (3, tP n B x)
def aFac (D : Tn) (a d : Nat) : Tn := up (up (up D 2 (D 0 1) a) 3 (D 0 1) d) 0 1 (D 0 1 + 1)
def aNap (D : Tn) (a d : Nat) : Tn := up (up (up D 7 (D 0 3) a) 8 (D 0 3) d) 0 3 (D 0 3 + 1)
def aTal (D : Tn) (a b e : Nat) : Tn := up (up (up (up D 4 (D 0 2) a) 5 (D 0 2) b) 6 (D 0 2) e) 0 2 (D 0 2 + 1)
def aDul (D : Tn) (a d e : Nat) : Tn := up (up (up (up D 9 (D 0 6) a) 10 (D 0 6) d) 11 (D 0 6) e) 0 6 (D 0 6 + 1)
def aWis (D : Tn) (h a f d : Nat) : Tn := up (up (up (up (up D 12 (D 0 9) a) 13 (D 0 9) f) 14 (D 0 9) d) 15 (D 0 9) h) 0 9 (D 0 9 + 1)
def sFac (s : Drf) (x : Nat) : Er (Drf × Nat) := eb (rdN n B s x) fun a => eb (rdB n B 0 27 (tN n B x)) fun d => .inr ((aFac s.1 a d, s.2), tN n B (tN n B x))
def sNap (s : Drf) (x : Nat) : Er (Drf × Nat) := eb (rdN n B s x) fun a => eb (rdB n B 0 27 (tN n B x)) fun d => .inr ((aNap s.1 a d, s.2), tN n B (tN n B x))
def sTal (s : Drf) (x : Nat) : Er (Drf × Nat) := eb (rdN n B s x) fun a => eb (rdN n B s (tN n B x)) fun b => if b = a then .inl (3, tP n B (tN n B x)) else eb (rdB n B 1 28 (tN n B (tN n B x))) fun e => .inr ((aTal s.1 a b e, s.2), tN n B (tN n B (tN n B x)))
def sDul (s : Drf) (x : Nat) : Er (Drf × Nat) := eb (rdN n B s x) fun a => eb (rdB n B 0 27 (tN n B x)) fun d => eb (rdB n B d 27 (tN n B (tN n B x))) fun e => .inr ((aDul s.1 a d e, s.2), tN n B (tN n B (tN n B x)))
def sWis (h : Nat) (s : Drf) (x : Nat) : Er (Drf × Nat) := eb (rdN n B s x) fun a => eb (rdB n B 0 11 (tN n B x)) fun f => eb (rdB n B 0 27 (tN n B (tN n B x))) fun d => .inr ((aWis s.1 h a f d, s.2), tN n B (tN n B (tN n B x)))
def sTra (s : Drf) (x : Nat) : Er (Drf × Nat) := eb (rdN n B s x) fun a => if (s.1 0 10).testBit a then .inl (3, tP n B x) else eb (rdB n B 0 99 (tN n B x)) fun v => .inr ((up (up s.1 16 a v) 0 10 (s.1 0 10 ||| 2 ^ a), s.2), tN n B (tN n B x))
/-- law, year, deep: 6, 7, 8 -/
def sSet (t : Nat) (s : Drf) (x : Nat) : Er (Drf × Nat) := eb (if t = 7 then rdB n B 1 28 x else rdB n B 0 4095 x) fun v => .inr ((up s.1 0 (if t = 6 then 4 else if t = 7 then 5 else 8) v, s.2), tN n B x)
/-- a clause, whose keyword stands at x -/
def clw (t : Nat) (s : Drf) (x : Nat) : Er (Drf × Nat) :=
  if t = 0 then (if s.1 0 0 = 8 then .inl (4, tP n B x) else sPer n B s (tN n B x)) else
  if t = 1 then sDre n B s (tN n B x) else
  if t = 2 then (if s.1 0 1 = 12 then .inl (4, tP n B x) else sFac n B s (tN n B x)) else
  if t = 3 then (if s.1 0 2 = 8 then .inl (4, tP n B x) else sTal n B s (tN n B x)) else
  if t = 4 then (if s.1 0 3 = 8 then .inl (4, tP n B x) else sNap n B s (tN n B x)) else
  if t = 5 then (if s.1 0 6 = 8 then .inl (4, tP n B x) else sDul n B s (tN n B x)) else
  if t = 9 then (if s.1 0 9 = 8 then .inl (4, tP n B x) else sWis n B 0 s (tN n B x)) else
  if t = 10 then (if s.1 0 9 = 8 then .inl (4, tP n B x) else sWis n B 1 s (tN n B x)) else
  if t = 11 then sTra n B s (tN n B x) else
  if t = 12 then .inl (1, tP n B x) else
  if s.2.2 t then .inl (3, tP n B x) else sSet n B t (s.1, s.2.1, fun i => s.2.2 i || i == t) (tN n B x)
def cls (s : Drf) (x : Nat) : Er (Drf × Nat) := match tQ n B x with
  | none => .inl (1, tP n B x)
  | some t => clw n B t s x
/-- the mark behind a clause -/
def mkr (r : Er (Drf × Nat)) : Er (Drf × Nat) := eb r fun z => if tk n B z.2 = 3 then .inr (z.1, tN n B z.2) else .inl (1, tP n B z.2)
/-- one clause more -/
def cl1 (s : Drf) : Drf := (up s.1 0 12 (s.1 0 12 + 1), s.2)
/-- clause after clause -/
def rdl : Nat → Drf → Nat → Er (Drf × Nat)
  | 0, s, x => .inr (s, x)
  | k + 1, s, x => if tk n B x = 0 then .inr (s, x) else eb (mkr n B (cls n B s x)) fun z => rdl k (cl1 z.1) z.2
end SPEC
section SPEC
variable {n : Nat} {B : Nat → Nat}
theorem eb_l {α β : Type} {r : Er α} {f : α → Er β} {e : Nat × Nat} (h : r = .inl e) : eb r f = .inl e := by rw [h]; rfl
theorem eb_r {α β : Type} {r : Er α} {f : α → Er β} {a : α} (h : r = .inr a) : eb r f = f a := by rw [h]; rfl
theorem eb_i {α β : Type} {r : Er α} {f : α → Er β} {b : β} (h : eb r f = .inr b) : ∃ a, r = .inr a ∧ f a = .inr b := by
  cases e : r with
  | inl e' => rw [eb_l e] at h; cases h
  | inr a => rw [eb_r e] at h; exact ⟨a, rfl, h⟩
theorem tP_p {x : Nat} (h : x ≤ n) : x ≤ tP n B x ∧ tP n B x ≤ n := ⟨(till_p h).1, (till_p h).2.1⟩
theorem tE_ge {j : Nat} (h : j ≤ n) : j ≤ tE n B j ∧ (j < n → j < tE n B j) := by
  unfold tE
  by_cases e0 : n ≤ j
  · rw [if_pos e0]; omega
  · rw [if_neg e0]
    have key : ∀ q : Nat → Bool, q (B j) = true → j ≤ till q n B j ∧ (j < n → j < till q n B j) := by
      intro q hq
      obtain ⟨t1, t2, t3, t4⟩ := till_p (q := q) (B := B) h
      refine ⟨t1, fun hj => ?_⟩
      by_cases e : till q n B j = j
      · have := t4 (by omega)
        rw [e, hq] at this; cases this
      · omega
    by_cases e1 : isL (B j) = true
    · rw [if_pos e1]; exact key isL e1
    · rw [if_neg e1]
      by_cases e2 : isD (B j) = true
      · rw [if_pos e2]; exact key isD e2
      · rw [if_neg e2]; omega
theorem tN_ge {x : Nat} (h : x ≤ n) : x ≤ tN n B x := by
  have h1 := tP_p (B := B) h
  have h2 := (tE_ge (B := B) h1.2).1
  unfold tN
  unfold tP at h1 h2
  omega
theorem tN_gt {x : Nat} (h : x ≤ n) (hk : tk n B x ≠ 0) : x < tN n B x := by
  have h1 := tP_p (B := B) h
  have h2 := tE_ge (B := B) h1.2
  have : tP n B x < n := by
    by_cases e : n ≤ tP n B x
    · exfalso
      apply hk
      unfold tk tK
      exact if_pos e
    · omega
  have h3 := h2.2 this
  unfold tN
  unfold tP at h1 h3
  omega
theorem rdN_r {s : Drf} {x p : Nat} (h : rdN n B s x = .inr p) : tk n B x = 1 ∧ nmd s (tW n B x) = some p ∧ p < s.1 0 0 := by
  unfold rdN at h
  by_cases e : tk n B x = 1
  · rw [if_pos e] at h
    cases e2 : nmd s (tW n B x) with
    | none => rw [e2] at h; cases h
    | some q =>
      rw [e2] at h
      cases h
      exact ⟨e, rfl, (ff_some.mp e2).1⟩
  · rw [if_neg e] at h; cases h
theorem rdB_r {lo hi x v : Nat} (h : rdB n B lo hi x = .inr v) : tk n B x = 2 ∧ v = tv n B x ∧ lo ≤ v ∧ v ≤ hi := by
  unfold rdB at h
  by_cases e : tk n B x = 2
  · rw [if_pos e] at h
    by_cases e2 : lo ≤ tv n B x ∧ tv n B x ≤ hi
    · rw [if_pos e2] at h
      cases h
      exact ⟨e, rfl, e2⟩
    · rw [if_neg e2] at h; cases h
  · rw [if_neg e] at h; cases h
end SPEC
