/-! ===== which rows stay: all but those that paths of references lead to ===== -/
/-- from a, by the places ks (999: any place), one comes to b -/
def rch (P : Nat → Nat → Option Nat) : Nat → List Nat → Nat → Prop
  | a, [], b => a = b
  | a, k :: ks, b => ∃ c, (P a k = some c ∨ (k = 999 ∧ ∃ j, P a j = some c)) ∧ rch P c ks b
theorem rch_app {P : Nat → Nat → Option Nat} : ∀ {p : List Nat} {a b : Nat} {p' : List Nat} {c : Nat}, rch P a p b → rch P b p' c → rch P a (p ++ p') c
  | [], _, _, _, _, h, h' => by cases h; exact h'
  | k :: ks, _, _, _, _, ⟨d, h1, h2⟩, h' => ⟨d, h1, rch_app h2 h'⟩
theorem rch_f {P : Nat → Nat → Option Nat} {a y z t k : Nat} {p : List Nat} {μ : Mm} (r : rch P a p y) (e : gf_P t k y μ = some z) (hp : mm_P μ = P) : rch P a (p ++ [k]) z := by
  obtain ⟨_, e⟩ := ite_p e
  exact rch_app r ⟨z, Or.inl (by rw [← hp]; exact e), rfl⟩
theorem rch_e {P : Nat → Nat → Option Nat} {a y z t : Nat} {i : Int32} {p : List Nat} {μ : Mm} (r : rch P a p y) (e : ga_P t y i μ = some z) (hp : mm_P μ = P) : rch P a (p ++ [999]) z := by
  obtain ⟨_, e⟩ := ite_p e
  exact rch_app r ⟨z, Or.inr ⟨rfl, _, by rw [← hp]; exact e⟩, rfl⟩
theorem rch_ne {P : Nat → Nat → Option Nat} {a y q : Nat} {ps : List (List Nat)} {p : List Nat} (c : ∀ p ∈ ps, ¬ rch P a p q) (hm : p ∈ ps) (r : rch P a p y) : q ≠ y := fun e => c p hm (by rw [e]; exact r)
theorem rch_sub {P : Nat → Nat → Option Nat} {a y q : Nat} {ps ps' : List (List Nat)} {p0 : List Nat} {μ : Mm} (c : ∀ p ∈ ps, ¬ rch P a p q) (r : rch P a p0 y) (hm : ∀ p ∈ ps', (p0 ++ p) ∈ ps) (hp : mm_P μ = P) : ∀ p ∈ ps', ¬ rch (mm_P μ) y p q := fun p hp' h => c _ (hm p hp') (rch_app r (by rw [← hp]; exact h))
theorem rch_lineOf {P : Nat → Nat → Option Nat} {a y z : Nat} {i : Int32} {p : List Nat} {μ : Mm} (r : rch P a p y) (e : f_X1_lineOf y i μ = some z) (hp : mm_P μ = P) : rch P a (p ++ [2, 999]) z := by
  obtain ⟨_, e⟩ := ite_p e
  obtain ⟨x1, e1, e⟩ := bd e
  have r1 := rch_f r e1 hp
  have key : ∀ (i : Int32), f_X1_lineOf_J19 x1 i μ = some z → rch P a (p ++ [2, 999]) z := by
    intro i h
    obtain ⟨x2, e2, h⟩ := bd h
    have h := Option.some.inj h
    subst h
    have r2 := rch_e r1 e2 hp
    rw [List.append_assoc] at r2
    exact r2
  rcases ite_e e with ⟨_, e⟩ | ⟨_, e⟩
  · exact key _ e
  · rcases ite_e e with ⟨_, e⟩ | ⟨_, e⟩
    · exact key _ e
    · exact key _ e
theorem ki_pfI {t k a : Nat} {v : Int32} {μ μ' : Mm} {q : Nat} (h : pf_I t k a v μ = some μ') (hq : q ≠ a) : mm_I μ' q = mm_I μ q := by obtain ⟨_, h⟩ := ite_p h; cases h; exact u1_n _ _ hq
theorem ki_pfZ {t k a : Nat} {v : Int32} {μ μ' : Mm} {q : Nat} (h : pf_Z t k a v μ = some μ') (hq : q ≠ a) : mm_I μ' q = mm_I μ q := by obtain ⟨_, h⟩ := ite_p h; cases h; exact u1_n _ _ hq
theorem ki_pfL {t k a : Nat} {v : Int64} {μ μ' : Mm} {q : Nat} (h : pf_L t k a v μ = some μ') : mm_I μ' q = mm_I μ q := by obtain ⟨_, h⟩ := ite_p h; cases h; rfl
theorem ki_paI {a : Nat} {i v : Int32} {μ μ' : Mm} {q : Nat} (h : pa_I a i v μ = some μ') (hq : q ≠ a) : mm_I μ' q = mm_I μ q := by obtain ⟨_, h⟩ := ite_p h; cases h; exact u1_n _ _ hq
theorem ki_paL {a : Nat} {i : Int32} {v : Int64} {μ μ' : Mm} {q : Nat} (h : pa_L a i v μ = some μ') : mm_I μ' q = mm_I μ q := by obtain ⟨_, h⟩ := ite_p h; cases h; rfl
theorem ki_paB {a : Nat} {i v : Int32} {μ μ' : Mm} {q : Nat} (h : pa_B a i v μ = some μ') (hq : q ≠ a) : mm_I μ' q = mm_I μ q := by obtain ⟨_, h⟩ := ite_p h; cases h; exact u1_n _ _ hq
theorem ki_paZ {a : Nat} {i v : Int32} {μ μ' : Mm} {q : Nat} (h : pa_Z a i v μ = some μ') (hq : q ≠ a) : mm_I μ' q = mm_I μ q := by obtain ⟨_, h⟩ := ite_p h; cases h; exact u1_n _ _ hq
theorem ki_cpI {s a : Nat} {i j n : Int32} {μ μ' : Mm} {q : Nat} (h : cp_I s i a j n μ = some μ') (hq : q ≠ a) : mm_I μ' q = mm_I μ q := by obtain ⟨_, h⟩ := ite_p h; cases h; exact u1_n _ _ hq
theorem kj_pfI {t k a : Nat} {v : Int32} {μ μ' : Mm} {q : Nat} (h : pf_I t k a v μ = some μ') : mm_L μ' q = mm_L μ q := by obtain ⟨_, h⟩ := ite_p h; cases h; rfl
theorem kj_pfZ {t k a : Nat} {v : Int32} {μ μ' : Mm} {q : Nat} (h : pf_Z t k a v μ = some μ') : mm_L μ' q = mm_L μ q := by obtain ⟨_, h⟩ := ite_p h; cases h; rfl
theorem kj_pfL {t k a : Nat} {v : Int64} {μ μ' : Mm} {q : Nat} (h : pf_L t k a v μ = some μ') (hq : q ≠ a) : mm_L μ' q = mm_L μ q := by obtain ⟨_, h⟩ := ite_p h; cases h; exact u1_n _ _ hq
theorem kj_paI {a : Nat} {i v : Int32} {μ μ' : Mm} {q : Nat} (h : pa_I a i v μ = some μ') : mm_L μ' q = mm_L μ q := by obtain ⟨_, h⟩ := ite_p h; cases h; rfl
theorem kj_paL {a : Nat} {i : Int32} {v : Int64} {μ μ' : Mm} {q : Nat} (h : pa_L a i v μ = some μ') (hq : q ≠ a) : mm_L μ' q = mm_L μ q := by obtain ⟨_, h⟩ := ite_p h; cases h; exact u1_n _ _ hq
theorem kj_paB {a : Nat} {i v : Int32} {μ μ' : Mm} {q : Nat} (h : pa_B a i v μ = some μ') : mm_L μ' q = mm_L μ q := by obtain ⟨_, h⟩ := ite_p h; cases h; rfl
theorem kj_paZ {a : Nat} {i v : Int32} {μ μ' : Mm} {q : Nat} (h : pa_Z a i v μ = some μ') : mm_L μ' q = mm_L μ q := by obtain ⟨_, h⟩ := ite_p h; cases h; rfl
theorem kj_cpI {s a : Nat} {i j n : Int32} {μ μ' : Mm} {q : Nat} (h : cp_I s i a j n μ = some μ') : mm_L μ' q = mm_L μ q := by obtain ⟨_, h⟩ := ite_p h; cases h; rfl
