theorem i_J7_fill_53178_L5 {l0 : Nat} {l1 : Int32} {l3 : Int32} {s5 : Int32 × Mm} {x : ((Int32 × Mm) ⊕ (Mm))} {q : Nat} (h : f_J7_fill_53178_L5 l0 l1 l3 s5 = some x) (c_l0 : ∀ p ∈ ([[]] : List (List Nat)), ¬ rch (mm_P ((fun (q : Int32 × Mm) => q.2) s5)) l0 p q) : mm_I (sm (fun (q : Int32 × Mm) => q.2) (fun (q : Mm) => q) x) q = mm_I ((fun (q : Int32 × Mm) => q.2) s5) q := by
  have hi : mm_I ((fun (q : Int32 × Mm) => q.2) s5) q = mm_I ((fun (q : Int32 × Mm) => q.2) s5) q := rfl
  have hp : mm_P ((fun (q : Int32 × Mm) => q.2) s5) = mm_P ((fun (q : Int32 × Mm) => q.2) s5) := rfl
  have r_l0 : rch (mm_P ((fun (q : Int32 × Mm) => q.2) s5)) l0 [] l0 := rfl
  rcases ite_e h with ⟨_, h⟩ | ⟨_, h⟩
  · have h := Option.some.inj h
    subst h
    exact hi
  · obtain ⟨μ13, e13, h⟩ := bd h
    have hi := (ki_paI e13 (rch_ne c_l0 (by decide) r_l0)).trans hi
    have hp := (kp_paI e13).trans hp
    obtain ⟨v14, e14, h⟩ := bd h
    have h := Option.some.inj h
    subst h
    exact hi
theorem i_J7_fill_53178_W5 {l0 : Nat} {l1 : Int32} {l3 : Int32} {s5 : Int32 × Mm} {b : Mm} {q : Nat} (h : whl (f_J7_fill_53178_L5 l0 l1 l3) s5 = some b) (c_l0 : ∀ p ∈ ([[]] : List (List Nat)), ¬ rch (mm_P ((fun (q : Int32 × Mm) => q.2) s5)) l0 p q) : mm_I ((fun (q : Mm) => q) b) q = mm_I ((fun (q : Int32 × Mm) => q.2) s5) q := by
  have key := whl_inv (P := fun s' => mm_I ((fun (q : Int32 × Mm) => q.2) s') q = mm_I ((fun (q : Int32 × Mm) => q.2) s5) q ∧ mm_P ((fun (q : Int32 × Mm) => q.2) s') = mm_P ((fun (q : Int32 × Mm) => q.2) s5)) (Q := fun b' => mm_I ((fun (q : Mm) => q) b') q = mm_I ((fun (q : Int32 × Mm) => q.2) s5) q) (fun s' x hs1 hx => ?_) ⟨rfl, rfl⟩ h
  · exact key
  · obtain ⟨h1, hP⟩ := hs1
    have k1 := (i_J7_fill_53178_L5 hx (fun p hp hr => c_l0 p hp (by rw [← hP]; exact hr))).trans h1
    have k2 := (p_J7_fill_53178_L5 hx).trans hP
    cases x with
    | inl z => exact ⟨k1, k2⟩
    | inr z => exact k1
theorem i_J7_fill_53178 {l0 : Nat} {l1 : Int32} {μ : Mm} {x : Mm} {q : Nat} (h : f_J7_fill_53178 l0 l1 μ = some x) (c_l0 : ∀ p ∈ ([[]] : List (List Nat)), ¬ rch (mm_P μ) l0 p q) : mm_I ((fun (q : Mm) => q) x) q = mm_I μ q := by
  have hi : mm_I μ q = mm_I μ q := rfl
  have hp : mm_P μ = mm_P μ := rfl
  have r_l0 : rch (mm_P μ) l0 [] l0 := rfl
  obtain ⟨x3, e3, h⟩ := bd h
  obtain ⟨b5, w5, h⟩ := bd h
  have hi := (i_J7_fill_53178_W5 w5 (rch_sub c_l0 r_l0 (by decide) hp)).trans hi
  have hp := (p_J7_fill_53178_W5 w5).trans hp
  have h := Option.some.inj h
  subst h
  exact hi
theorem i_J7_fill_d0a16_L6 {l0 : Nat} {l1 : Int64} {l4 : Int32} {s6 : Int32 × Mm} {x : ((Int32 × Mm) ⊕ (Mm))} {q : Nat} (h : f_J7_fill_d0a16_L6 l0 l1 l4 s6 = some x)  : mm_I (sm (fun (q : Int32 × Mm) => q.2) (fun (q : Mm) => q) x) q = mm_I ((fun (q : Int32 × Mm) => q.2) s6) q := by
  have hi : mm_I ((fun (q : Int32 × Mm) => q.2) s6) q = mm_I ((fun (q : Int32 × Mm) => q.2) s6) q := rfl
  have hp : mm_P ((fun (q : Int32 × Mm) => q.2) s6) = mm_P ((fun (q : Int32 × Mm) => q.2) s6) := rfl
  have r_l0 : rch (mm_P ((fun (q : Int32 × Mm) => q.2) s6)) l0 [] l0 := rfl
  rcases ite_e h with ⟨_, h⟩ | ⟨_, h⟩
  · have h := Option.some.inj h
    subst h
    exact hi
  · obtain ⟨μ15, e15, h⟩ := bd h
    have hi := (ki_paL e15).trans hi
    have hp := (kp_paL e15).trans hp
    obtain ⟨v16, e16, h⟩ := bd h
    have h := Option.some.inj h
    subst h
    exact hi
theorem i_J7_fill_d0a16_W6 {l0 : Nat} {l1 : Int64} {l4 : Int32} {s6 : Int32 × Mm} {b : Mm} {q : Nat} (h : whl (f_J7_fill_d0a16_L6 l0 l1 l4) s6 = some b)  : mm_I ((fun (q : Mm) => q) b) q = mm_I ((fun (q : Int32 × Mm) => q.2) s6) q := by
  have key := whl_inv (P := fun s' => mm_I ((fun (q : Int32 × Mm) => q.2) s') q = mm_I ((fun (q : Int32 × Mm) => q.2) s6) q ∧ mm_P ((fun (q : Int32 × Mm) => q.2) s') = mm_P ((fun (q : Int32 × Mm) => q.2) s6)) (Q := fun b' => mm_I ((fun (q : Mm) => q) b') q = mm_I ((fun (q : Int32 × Mm) => q.2) s6) q) (fun s' x hs1 hx => ?_) ⟨rfl, rfl⟩ h
  · exact key
  · obtain ⟨h1, hP⟩ := hs1
    have k1 := (i_J7_fill_d0a16_L6 hx ).trans h1
    have k2 := (p_J7_fill_d0a16_L6 hx).trans hP
    cases x with
    | inl z => exact ⟨k1, k2⟩
    | inr z => exact k1
theorem i_J7_fill_d0a16 {l0 : Nat} {l1 : Int64} {μ : Mm} {x : Mm} {q : Nat} (h : f_J7_fill_d0a16 l0 l1 μ = some x)  : mm_I ((fun (q : Mm) => q) x) q = mm_I μ q := by
  have hi : mm_I μ q = mm_I μ q := rfl
  have hp : mm_P μ = mm_P μ := rfl
  have r_l0 : rch (mm_P μ) l0 [] l0 := rfl
  obtain ⟨x3, e3, h⟩ := bd h
  obtain ⟨b6, w6, h⟩ := bd h
  have hi := (i_J7_fill_d0a16_W6 w6 ).trans hi
  have hp := (p_J7_fill_d0a16_W6 w6).trans hp
  have h := Option.some.inj h
  subst h
  exact hi
theorem i_X0_addAct {a0 : Nat} {l1 : Int32} {l2 : Int32} {l3 : Int32} {l4 : Int32} {l5 : Int32} {μ : Mm} {x : (Int32 × Mm)} {q : Nat} (h : f_X0_addAct a0 l1 l2 l3 l4 l5 μ = some x) (c_a0 : ∀ p ∈ ([[], [0], [1], [2], [3], [4]] : List (List Nat)), ¬ rch (mm_P μ) a0 p q) : mm_I ((fun (q : (Int32 × Mm)) => q.2) x) q = mm_I μ q := by
  have hi : mm_I μ q = mm_I μ q := rfl
  have hp : mm_P μ = mm_P μ := rfl
  have r_a0 : rch (mm_P μ) a0 [] a0 := rfl
  obtain ⟨_, h⟩ := ite_p h
  obtain ⟨x1, e1, h⟩ := bd h
  rcases ite_e h with ⟨_, h⟩ | ⟨_, h⟩
  · have h := Option.some.inj h
    subst h
    exact hi
  · obtain ⟨μ12, e12, h⟩ := bd h
    have hi := (ki_pfI e12 (rch_ne c_a0 (by decide) r_a0)).trans hi
    have hp := (kp_pfI e12).trans hp
    obtain ⟨x16, e16, h⟩ := bd h
    have r_x16 := rch_f r_a0 e16 hp
    obtain ⟨x20, e20, h⟩ := bd h
    obtain ⟨μ24, e24, h⟩ := bd h
    have hi := (ki_paI e24 (rch_ne c_a0 (by decide) r_x16)).trans hi
    have hp := (kp_paI e24).trans hp
    obtain ⟨x26, e26, h⟩ := bd h
    have r_x26 := rch_f r_a0 e26 hp
    obtain ⟨x30, e30, h⟩ := bd h
    obtain ⟨μ34, e34, h⟩ := bd h
    have hi := (ki_paI e34 (rch_ne c_a0 (by decide) r_x26)).trans hi
    have hp := (kp_paI e34).trans hp
    obtain ⟨x36, e36, h⟩ := bd h
    have r_x36 := rch_f r_a0 e36 hp
    obtain ⟨x40, e40, h⟩ := bd h
    obtain ⟨μ44, e44, h⟩ := bd h
    have hi := (ki_paI e44 (rch_ne c_a0 (by decide) r_x36)).trans hi
    have hp := (kp_paI e44).trans hp
    obtain ⟨x46, e46, h⟩ := bd h
    have r_x46 := rch_f r_a0 e46 hp
    obtain ⟨x50, e50, h⟩ := bd h
    obtain ⟨μ55, e55, h⟩ := bd h
    have hi := (ki_paI e55 (rch_ne c_a0 (by decide) r_x46)).trans hi
    have hp := (kp_paI e55).trans hp
    obtain ⟨x57, e57, h⟩ := bd h
    have r_x57 := rch_f r_a0 e57 hp
    obtain ⟨x61, e61, h⟩ := bd h
    obtain ⟨μ66, e66, h⟩ := bd h
    have hi := (ki_paI e66 (rch_ne c_a0 (by decide) r_x57)).trans hi
    have hp := (kp_paI e66).trans hp
    obtain ⟨x69, e69, h⟩ := bd h
    obtain ⟨μ74, e74, h⟩ := bd h
    have hi := (ki_pfI e74 (rch_ne c_a0 (by decide) r_a0)).trans hi
    have hp := (kp_pfI e74).trans hp
    obtain ⟨x78, e78, h⟩ := bd h
    have h := Option.some.inj h
    subst h
    exact hi
theorem i_X10_act {a0 : Nat} {l1 : Int32} {l2 : Int32} {l3 : Int32} {l4 : Int32} {l5 : Int32} {μ : Mm} {x : (Int32 × Mm)} {q : Nat} (h : f_X10_act a0 l1 l2 l3 l4 l5 μ = some x) (c_a0 : ∀ p ∈ ([[4], [4, 0], [4, 1], [4, 2], [4, 3], [4, 4], [5]] : List (List Nat)), ¬ rch (mm_P μ) a0 p q) : mm_I ((fun (q : (Int32 × Mm)) => q.2) x) q = mm_I μ q := by
  have hi : mm_I μ q = mm_I μ q := rfl
  have hp : mm_P μ = mm_P μ := rfl
  have r_a0 : rch (mm_P μ) a0 [] a0 := rfl
  obtain ⟨_, h⟩ := ite_p h
  obtain ⟨x1, e1, h⟩ := bd h
  have r_x1 := rch_f r_a0 e1 hp
  obtain ⟨x7, e7, h⟩ := bd h
  rcases ite_e h with ⟨_, h⟩ | ⟨_, h⟩
  · have h := Option.some.inj h
    subst h
    exact hi
  · obtain ⟨x14, e14, h⟩ := bd h
    rcases ite_e h with ⟨_, h⟩ | ⟨_, h⟩
    · have h := Option.some.inj h
      subst h
      exact hi
    · obtain ⟨x24, e24, h⟩ := bd h
      have r_x24 := rch_f r_a0 e24 hp
      obtain ⟨x28, e28, h⟩ := bd h
      rcases ite_e h with ⟨_, h⟩ | ⟨_, h⟩
      · have h := Option.some.inj h
        subst h
        exact hi
      · obtain ⟨x35, e35, h⟩ := bd h
        have r_x35 := rch_f r_a0 e35 hp
        obtain ⟨x40, e40, h⟩ := bd h
        rcases ite_e h with ⟨_, h⟩ | ⟨_, h⟩
        · have h := Option.some.inj h
          subst h
          exact hi
        · obtain ⟨x50, e50, h⟩ := bd h
          have r_x50 := rch_f r_a0 e50 hp
          obtain ⟨x53, e53, h⟩ := bd h
          rcases ite_e h with ⟨_, h⟩ | ⟨_, h⟩
          · have h := Option.some.inj h
            subst h
            exact hi
          · obtain ⟨x63, e63, h⟩ := bd h
            have r_x63 := rch_f r_a0 e63 hp
            obtain ⟨μ67, e67, h⟩ := bd h
            have hi := (ki_pfZ e67 (rch_ne c_a0 (by decide) r_x63)).trans hi
            have hp := (kp_pfZ e67).trans hp
            obtain ⟨x71, e71, h⟩ := bd h
            have r_x71 := rch_f r_a0 e71 hp
            obtain ⟨x81, e81, h⟩ := bd h
            have hi := (i_X0_addAct e81 (rch_sub c_a0 r_x71 (by decide) hp)).trans hi
            have hp := (p_X0_addAct e81).trans hp
            have h := Option.some.inj h
            subst h
            exact hi
theorem i_X4_setFact_J167  {k0 : Nat} {k1 : Int32} {μ : Mm} {x : Mm} {q : Nat} (h : f_X4_setFact_J167 k0 k1 μ = some x) (c_k0 : ∀ p ∈ ([[]] : List (List Nat)), ¬ rch (mm_P μ) k0 p q) : mm_I ((fun (q : Mm) => q) x) q = mm_I μ q := by
  have hi : mm_I μ q = mm_I μ q := rfl
  have hp : mm_P μ = mm_P μ := rfl
  have r_k0 : rch (mm_P μ) k0 [] k0 := rfl
  obtain ⟨μ167, e167, h⟩ := bd h
  have hi := (ki_pfZ e167 (rch_ne c_k0 (by decide) r_k0)).trans hi
  have hp := (kp_pfZ e167).trans hp
  have h := Option.some.inj h
  subst h
  exact hi
theorem i_X4_setFact_J166  {k0 : Nat} {μ : Mm} {x : Mm} {q : Nat} (h : f_X4_setFact_J166 k0 μ = some x) (c_k0 : ∀ p ∈ ([[]] : List (List Nat)), ¬ rch (mm_P μ) k0 p q) : mm_I ((fun (q : Mm) => q) x) q = mm_I μ q := by
  have hi : mm_I μ q = mm_I μ q := rfl
  have hp : mm_P μ = mm_P μ := rfl
  have r_k0 : rch (mm_P μ) k0 [] k0 := rfl
  exact (i_X4_setFact_J167 h (rch_sub c_k0 r_k0 (by decide) hp)).trans hi
theorem i_X4_setFact_J147 {a0 : Nat} {l2 : Int32} {l4 : Int32} {k0 : Nat} {k1 : Int32} {μ : Mm} {x : Mm} {q : Nat} (h : f_X4_setFact_J147 a0 l2 l4 k0 k1 μ = some x) (c_a0 : ∀ p ∈ ([[]] : List (List Nat)), ¬ rch (mm_P μ) a0 p q) (c_k0 : ∀ p ∈ ([[]] : List (List Nat)), ¬ rch (mm_P μ) k0 p q) : mm_I ((fun (q : Mm) => q) x) q = mm_I μ q := by
  have hi : mm_I μ q = mm_I μ q := rfl
  have hp : mm_P μ = mm_P μ := rfl
  have r_a0 : rch (mm_P μ) a0 [] a0 := rfl
  have r_k0 : rch (mm_P μ) k0 [] k0 := rfl
  obtain ⟨μ147, e147, h⟩ := bd h
  have hi := (ki_pfZ e147 (rch_ne c_k0 (by decide) r_k0)).trans hi
  have hp := (kp_pfZ e147).trans hp
  rcases ite_e h with ⟨_, h⟩ | ⟨_, h⟩
  · exact (i_X4_setFact_J166 h (rch_sub c_a0 r_a0 (by decide) hp)).trans hi
  · rcases ite_e h with ⟨_, h⟩ | ⟨_, h⟩
    · exact (i_X4_setFact_J167 h (rch_sub c_a0 r_a0 (by decide) hp)).trans hi
    · exact (i_X4_setFact_J166 h (rch_sub c_a0 r_a0 (by decide) hp)).trans hi
theorem i_X4_setFact_J146 {a0 : Nat} {l2 : Int32} {l4 : Int32} {k0 : Nat} {μ : Mm} {x : Mm} {q : Nat} (h : f_X4_setFact_J146 a0 l2 l4 k0 μ = some x) (c_a0 : ∀ p ∈ ([[]] : List (List Nat)), ¬ rch (mm_P μ) a0 p q) (c_k0 : ∀ p ∈ ([[]] : List (List Nat)), ¬ rch (mm_P μ) k0 p q) : mm_I ((fun (q : Mm) => q) x) q = mm_I μ q := by
  have hi : mm_I μ q = mm_I μ q := rfl
  have hp : mm_P μ = mm_P μ := rfl
  have r_a0 : rch (mm_P μ) a0 [] a0 := rfl
  have r_k0 : rch (mm_P μ) k0 [] k0 := rfl
  exact (i_X4_setFact_J147 h (rch_sub c_a0 r_a0 (by decide) hp) (rch_sub c_k0 r_k0 (by decide) hp)).trans hi
theorem i_X4_setFact_J127 {a0 : Nat} {l2 : Int32} {l4 : Int32} {l5 : Int32} {k0 : Nat} {k1 : Int32} {μ : Mm} {x : Mm} {q : Nat} (h : f_X4_setFact_J127 a0 l2 l4 l5 k0 k1 μ = some x) (c_a0 : ∀ p ∈ ([[]] : List (List Nat)), ¬ rch (mm_P μ) a0 p q) (c_k0 : ∀ p ∈ ([[]] : List (List Nat)), ¬ rch (mm_P μ) k0 p q) : mm_I ((fun (q : Mm) => q) x) q = mm_I μ q := by
  have hi : mm_I μ q = mm_I μ q := rfl
  have hp : mm_P μ = mm_P μ := rfl
  have r_a0 : rch (mm_P μ) a0 [] a0 := rfl
  have r_k0 : rch (mm_P μ) k0 [] k0 := rfl
  obtain ⟨μ127, e127, h⟩ := bd h
  have hi := (ki_pfZ e127 (rch_ne c_k0 (by decide) r_k0)).trans hi
  have hp := (kp_pfZ e127).trans hp
  rcases ite_e h with ⟨_, h⟩ | ⟨_, h⟩
  · exact (i_X4_setFact_J146 h (rch_sub c_a0 r_a0 (by decide) hp) (rch_sub c_a0 r_a0 (by decide) hp)).trans hi
  · rcases ite_e h with ⟨_, h⟩ | ⟨_, h⟩
    · exact (i_X4_setFact_J146 h (rch_sub c_a0 r_a0 (by decide) hp) (rch_sub c_a0 r_a0 (by decide) hp)).trans hi
    · exact (i_X4_setFact_J147 h (rch_sub c_a0 r_a0 (by decide) hp) (rch_sub c_a0 r_a0 (by decide) hp)).trans hi
theorem i_X4_setFact_J126 {a0 : Nat} {l2 : Int32} {l4 : Int32} {l5 : Int32} {k0 : Nat} {μ : Mm} {x : Mm} {q : Nat} (h : f_X4_setFact_J126 a0 l2 l4 l5 k0 μ = some x) (c_a0 : ∀ p ∈ ([[]] : List (List Nat)), ¬ rch (mm_P μ) a0 p q) (c_k0 : ∀ p ∈ ([[]] : List (List Nat)), ¬ rch (mm_P μ) k0 p q) : mm_I ((fun (q : Mm) => q) x) q = mm_I μ q := by
  have hi : mm_I μ q = mm_I μ q := rfl
  have hp : mm_P μ = mm_P μ := rfl
  have r_a0 : rch (mm_P μ) a0 [] a0 := rfl
  have r_k0 : rch (mm_P μ) k0 [] k0 := rfl
  exact (i_X4_setFact_J127 h (rch_sub c_a0 r_a0 (by decide) hp) (rch_sub c_k0 r_k0 (by decide) hp)).trans hi
theorem i_X4_setFact_J102 {a0 : Nat} {l2 : Int32} {l3 : Int32} {l4 : Int32} {l5 : Int32} {k0 : Nat} {k1 : Int32} {μ : Mm} {x : Mm} {q : Nat} (h : f_X4_setFact_J102 a0 l2 l3 l4 l5 k0 k1 μ = some x) (c_a0 : ∀ p ∈ ([[]] : List (List Nat)), ¬ rch (mm_P μ) a0 p q) (c_k0 : ∀ p ∈ ([[]] : List (List Nat)), ¬ rch (mm_P μ) k0 p q) : mm_I ((fun (q : Mm) => q) x) q = mm_I μ q := by
  have hi : mm_I μ q = mm_I μ q := rfl
  have hp : mm_P μ = mm_P μ := rfl
  have r_a0 : rch (mm_P μ) a0 [] a0 := rfl
  have r_k0 : rch (mm_P μ) k0 [] k0 := rfl
  obtain ⟨μ102, e102, h⟩ := bd h
  have hi := (ki_pfI e102 (rch_ne c_k0 (by decide) r_k0)).trans hi
  have hp := (kp_pfI e102).trans hp
  obtain ⟨μ107, e107, h⟩ := bd h
  have hi := (ki_pfI e107 (rch_ne c_a0 (by decide) r_a0)).trans hi
  have hp := (kp_pfI e107).trans hp
  rcases ite_e h with ⟨_, h⟩ | ⟨_, h⟩
  · exact (i_X4_setFact_J126 h (rch_sub c_a0 r_a0 (by decide) hp) (rch_sub c_a0 r_a0 (by decide) hp)).trans hi
  · rcases ite_e h with ⟨_, h⟩ | ⟨_, h⟩
    · exact (i_X4_setFact_J127 h (rch_sub c_a0 r_a0 (by decide) hp) (rch_sub c_a0 r_a0 (by decide) hp)).trans hi
    · exact (i_X4_setFact_J126 h (rch_sub c_a0 r_a0 (by decide) hp) (rch_sub c_a0 r_a0 (by decide) hp)).trans hi
theorem i_X4_setFact_J75 {a0 : Nat} {l1 : Int32} {l2 : Int32} {l3 : Int32} {l4 : Int32} {l5 : Int32} {l6 : Int32} {k0 : Nat} {k1 : Int32} {μ : Mm} {x : Mm} {q : Nat} (h : f_X4_setFact_J75 a0 l1 l2 l3 l4 l5 l6 k0 k1 μ = some x) (c_a0 : ∀ p ∈ ([[]] : List (List Nat)), ¬ rch (mm_P μ) a0 p q) (c_k0 : ∀ p ∈ ([[]] : List (List Nat)), ¬ rch (mm_P μ) k0 p q) : mm_I ((fun (q : Mm) => q) x) q = mm_I μ q := by
  have hi : mm_I μ q = mm_I μ q := rfl
  have hp : mm_P μ = mm_P μ := rfl
  have r_a0 : rch (mm_P μ) a0 [] a0 := rfl
  have r_k0 : rch (mm_P μ) k0 [] k0 := rfl
  obtain ⟨μ75, e75, h⟩ := bd h
  have hi := (ki_pfI e75 (rch_ne c_k0 (by decide) r_k0)).trans hi
  have hp := (kp_pfI e75).trans hp
  rcases ite_e h with ⟨_, h⟩ | ⟨_, h⟩
  · exact (i_X4_setFact_J102 h (rch_sub c_a0 r_a0 (by decide) hp) (rch_sub c_a0 r_a0 (by decide) hp)).trans hi
  · obtain ⟨x86, e86, h⟩ := bd h
    have r_x86 := rch_f r_a0 e86 hp
    obtain ⟨x89, e89, h⟩ := bd h
    have r_x89 := rch_f r_x86 e89 hp
    obtain ⟨x94, e94, h⟩ := bd h
    exact (i_X4_setFact_J102 h (rch_sub c_a0 r_a0 (by decide) hp) (rch_sub c_a0 r_a0 (by decide) hp)).trans hi
theorem i_X4_setFact_J40 {a0 : Nat} {l1 : Int32} {l2 : Int32} {l3 : Int32} {l4 : Int32} {k0 : Int32} {μ : Mm} {x : Mm} {q : Nat} (h : f_X4_setFact_J40 a0 l1 l2 l3 l4 k0 μ = some x) (c_a0 : ∀ p ∈ ([[]] : List (List Nat)), ¬ rch (mm_P μ) a0 p q) : mm_I ((fun (q : Mm) => q) x) q = mm_I μ q := by
  have hi : mm_I μ q = mm_I μ q := rfl
  have hp : mm_P μ = mm_P μ := rfl
  have r_a0 : rch (mm_P μ) a0 [] a0 := rfl
  obtain ⟨x43, e43, h⟩ := bd h
  have r_x43 := rch_f r_a0 e43 hp
  obtain ⟨x47, e47, h⟩ := bd h
  rcases ite_e h with ⟨_, h⟩ | ⟨_, h⟩
  · exact (i_X4_setFact_J75 h (rch_sub c_a0 r_a0 (by decide) hp) (rch_sub c_a0 r_a0 (by decide) hp)).trans hi
  · obtain ⟨x59, e59, h⟩ := bd h
    have r_x59 := rch_f r_a0 e59 hp
    obtain ⟨x62, e62, h⟩ := bd h
    have r_x62 := rch_f r_x59 e62 hp
    obtain ⟨x67, e67, h⟩ := bd h
    exact (i_X4_setFact_J75 h (rch_sub c_a0 r_a0 (by decide) hp) (rch_sub c_a0 r_a0 (by decide) hp)).trans hi
theorem i_X4_setFact_J19 {a0 : Nat} {l1 : Int32} {l2 : Int32} {l3 : Int32} {k0 : Int32} {μ : Mm} {x : Mm} {q : Nat} (h : f_X4_setFact_J19 a0 l1 l2 l3 k0 μ = some x) (c_a0 : ∀ p ∈ ([[]] : List (List Nat)), ¬ rch (mm_P μ) a0 p q) : mm_I ((fun (q : Mm) => q) x) q = mm_I μ q := by
  have hi : mm_I μ q = mm_I μ q := rfl
  have hp : mm_P μ = mm_P μ := rfl
  have r_a0 : rch (mm_P μ) a0 [] a0 := rfl
  obtain ⟨x22, e22, h⟩ := bd h
  have r_x22 := rch_f r_a0 e22 hp
  obtain ⟨x25, e25, h⟩ := bd h
  rcases ite_e h with ⟨_, h⟩ | ⟨_, h⟩
  · exact (i_X4_setFact_J40 h (rch_sub c_a0 r_a0 (by decide) hp)).trans hi
  · exact (i_X4_setFact_J40 h (rch_sub c_a0 r_a0 (by decide) hp)).trans hi
theorem i_X4_setFact {a0 : Nat} {l1 : Int32} {l2 : Int32} {l3 : Int32} {μ : Mm} {x : Mm} {q : Nat} (h : f_X4_setFact a0 l1 l2 l3 μ = some x) (c_a0 : ∀ p ∈ ([[]] : List (List Nat)), ¬ rch (mm_P μ) a0 p q) : mm_I ((fun (q : Mm) => q) x) q = mm_I μ q := by
  have hi : mm_I μ q = mm_I μ q := rfl
  have hp : mm_P μ = mm_P μ := rfl
  have r_a0 : rch (mm_P μ) a0 [] a0 := rfl
  obtain ⟨_, h⟩ := ite_p h
  obtain ⟨x1, e1, h⟩ := bd h
  have r_x1 := rch_f r_a0 e1 hp
  obtain ⟨x4, e4, h⟩ := bd h
  rcases ite_e h with ⟨_, h⟩ | ⟨_, h⟩
  · exact (i_X4_setFact_J19 h (rch_sub c_a0 r_a0 (by decide) hp)).trans hi
  · exact (i_X4_setFact_J19 h (rch_sub c_a0 r_a0 (by decide) hp)).trans hi
theorem i_X4_setTurning_J48 {a0 : Nat} {l1 : Int32} {l2 : Int32} {μ : Mm} {x : ((Int32 × Mm) ⊕ (Mm))} {q : Nat} (h : f_X4_setTurning_J48 a0 l1 l2 μ = some x)  : mm_I ((sm (fun (q : Int32 × Mm) => q.2) (fun (q : Mm) => q)) x) q = mm_I μ q := by
  have hi : mm_I μ q = mm_I μ q := rfl
  have hp : mm_P μ = mm_P μ := rfl
  have r_a0 : rch (mm_P μ) a0 [] a0 := rfl
  obtain ⟨v48, e48, h⟩ := bd h
  have h := Option.some.inj h
  subst h
  exact hi
theorem i_X4_setTurning_L10 {a0 : Nat} {l1 : Int32} {s10 : Int32 × Mm} {x : ((Int32 × Mm) ⊕ (Mm))} {q : Nat} (h : f_X4_setTurning_L10 a0 l1 s10 = some x) (c_a0 : ∀ p ∈ ([[3], [4]] : List (List Nat)), ¬ rch (mm_P ((fun (q : Int32 × Mm) => q.2) s10)) a0 p q) : mm_I (sm (fun (q : Int32 × Mm) => q.2) (fun (q : Mm) => q) x) q = mm_I ((fun (q : Int32 × Mm) => q.2) s10) q := by
  have hi : mm_I ((fun (q : Int32 × Mm) => q.2) s10) q = mm_I ((fun (q : Int32 × Mm) => q.2) s10) q := rfl
  have hp : mm_P ((fun (q : Int32 × Mm) => q.2) s10) = mm_P ((fun (q : Int32 × Mm) => q.2) s10) := rfl
  have r_a0 : rch (mm_P ((fun (q : Int32 × Mm) => q.2) s10)) a0 [] a0 := rfl
  rcases ite_e h with ⟨_, h⟩ | ⟨_, h⟩
  · have h := Option.some.inj h
    subst h
    exact hi
  · obtain ⟨x18, e18, h⟩ := bd h
    obtain ⟨x23, e23, h⟩ := bd h
    have r_x23 := rch_f r_a0 e23 hp
    obtain ⟨μ28, e28, h⟩ := bd h
    have hi := (ki_paI e28 (rch_ne c_a0 (by decide) r_x23)).trans hi
    have hp := (kp_paI e28).trans hp
    rcases ite_e h with ⟨_, h⟩ | ⟨_, h⟩
    · exact (i_X4_setTurning_J48 h ).trans hi
    · rcases ite_e h with ⟨_, h⟩ | ⟨_, h⟩
      · exact (i_X4_setTurning_J48 h ).trans hi
      · obtain ⟨x40, e40, h⟩ := bd h
        have r_x40 := rch_f r_a0 e40 hp
        obtain ⟨μ47, e47, h⟩ := bd h
        have hi := (ki_paI e47 (rch_ne c_a0 (by decide) r_x40)).trans hi
        have hp := (kp_paI e47).trans hp
        exact (i_X4_setTurning_J48 h ).trans hi
theorem i_X4_setTurning_W10 {a0 : Nat} {l1 : Int32} {s10 : Int32 × Mm} {b : Mm} {q : Nat} (h : whl (f_X4_setTurning_L10 a0 l1) s10 = some b) (c_a0 : ∀ p ∈ ([[3], [4]] : List (List Nat)), ¬ rch (mm_P ((fun (q : Int32 × Mm) => q.2) s10)) a0 p q) : mm_I ((fun (q : Mm) => q) b) q = mm_I ((fun (q : Int32 × Mm) => q.2) s10) q := by
  have key := whl_inv (P := fun s' => mm_I ((fun (q : Int32 × Mm) => q.2) s') q = mm_I ((fun (q : Int32 × Mm) => q.2) s10) q ∧ mm_P ((fun (q : Int32 × Mm) => q.2) s') = mm_P ((fun (q : Int32 × Mm) => q.2) s10)) (Q := fun b' => mm_I ((fun (q : Mm) => q) b') q = mm_I ((fun (q : Int32 × Mm) => q.2) s10) q) (fun s' x hs1 hx => ?_) ⟨rfl, rfl⟩ h
  · exact key
  · obtain ⟨h1, hP⟩ := hs1
    have k1 := (i_X4_setTurning_L10 hx (fun p hp hr => c_a0 p hp (by rw [← hP]; exact hr))).trans h1
    have k2 := (p_X4_setTurning_L10 hx).trans hP
    cases x with
    | inl z => exact ⟨k1, k2⟩
    | inr z => exact k1
theorem i_X4_setTurning {a0 : Nat} {l1 : Int32} {μ : Mm} {x : Mm} {q : Nat} (h : f_X4_setTurning a0 l1 μ = some x) (c_a0 : ∀ p ∈ ([[3], [4]] : List (List Nat)), ¬ rch (mm_P μ) a0 p q) : mm_I ((fun (q : Mm) => q) x) q = mm_I μ q := by
  have hi : mm_I μ q = mm_I μ q := rfl
  have hp : mm_P μ = mm_P μ := rfl
  have r_a0 : rch (mm_P μ) a0 [] a0 := rfl
  obtain ⟨_, h⟩ := ite_p h
  obtain ⟨x1, e1, h⟩ := bd h
  have r_x1 := rch_f r_a0 e1 hp
  obtain ⟨x5, e5, h⟩ := bd h
  have hi := (i_J7_fill_53178 e5 (rch_sub c_a0 r_x1 (by decide) hp)).trans hi
  have hp := (p_J7_fill_53178 e5).trans hp
  obtain ⟨b10, w10, h⟩ := bd h
  have hi := (i_X4_setTurning_W10 w10 (rch_sub c_a0 r_a0 (by decide) hp)).trans hi
  have hp := (p_X4_setTurning_W10 w10).trans hp
  have h := Option.some.inj h
  subst h
  exact hi
theorem i_X10_all {a0 : Nat} {l1 : Int32} {l2 : Int32} {μ : Mm} {x : (Int32 × Mm)} {q : Nat} (h : f_X10_all a0 l1 l2 μ = some x) (c_a0 : ∀ p ∈ ([[3], [3, 3], [3, 4]] : List (List Nat)), ¬ rch (mm_P μ) a0 p q) : mm_I ((fun (q : (Int32 × Mm)) => q.2) x) q = mm_I μ q := by
  have hi : mm_I μ q = mm_I μ q := rfl
  have hp : mm_P μ = mm_P μ := rfl
  have r_a0 : rch (mm_P μ) a0 [] a0 := rfl
  obtain ⟨_, h⟩ := ite_p h
  obtain ⟨x1, e1, h⟩ := bd h
  have r_x1 := rch_f r_a0 e1 hp
  obtain ⟨x5, e5, h⟩ := bd h
  rcases ite_e h with ⟨_, h⟩ | ⟨_, h⟩
  · have h := Option.some.inj h
    subst h
    exact hi
  · obtain ⟨x12, e12, h⟩ := bd h
    rcases ite_e h with ⟨_, h⟩ | ⟨_, h⟩
    · have h := Option.some.inj h
      subst h
      exact hi
    · obtain ⟨x22, e22, h⟩ := bd h
      have r_x22 := rch_f r_a0 e22 hp
      obtain ⟨x26, e26, h⟩ := bd h
      obtain ⟨x29, e29, h⟩ := bd h
      have hi := (i_X4_setTurning e29 (rch_sub c_a0 r_x22 (by decide) hp)).trans hi
      have hp := (p_X4_setTurning e29).trans hp
      obtain ⟨x33, e33, h⟩ := bd h
      have r_x33 := rch_f r_a0 e33 hp
      obtain ⟨x39, e39, h⟩ := bd h
      have hi := (i_X4_setFact e39 (rch_sub c_a0 r_x33 (by decide) hp)).trans hi
      have hp := (p_X4_setFact e39).trans hp
      obtain ⟨x43, e43, h⟩ := bd h
      have r_x43 := rch_f r_a0 e43 hp
      obtain ⟨x46, e46, h⟩ := bd h
      have h := Option.some.inj h
      subst h
      exact hi
theorem i_X1_chooseDay_J160 {a0 : Nat} {l1 : Int32} {l2 : Int32} {l5 : Int32} {l6 : Int32} {l7 : Int32} {μ : Mm} {x : ((Int32 × Int32 × Int32 × Mm) ⊕ (Int32 × Mm))} {q : Nat} (h : f_X1_chooseDay_J160 a0 l1 l2 l5 l6 l7 μ = some x)  : mm_I ((sm (fun (q : Int32 × Int32 × Int32 × Mm) => q.2.2.2) (fun (q : Int32 × Mm) => q.2)) x) q = mm_I μ q := by
  have hi : mm_I μ q = mm_I μ q := rfl
  have hp : mm_P μ = mm_P μ := rfl
  have r_a0 : rch (mm_P μ) a0 [] a0 := rfl
  obtain ⟨v160, e160, h⟩ := bd h
  have h := Option.some.inj h
  subst h
  exact hi
theorem i_X1_chooseDay_L88 {a0 : Nat} {l1 : Int32} {l2 : Int32} {s88 : Int32 × Int32 × Int32 × Mm} {x : ((Int32 × Int32 × Int32 × Mm) ⊕ (Int32 × Mm))} {q : Nat} (h : f_X1_chooseDay_L88 a0 l1 l2 s88 = some x) (c_a0 : ∀ p ∈ ([[]] : List (List Nat)), ¬ rch (mm_P ((fun (q : Int32 × Int32 × Int32 × Mm) => q.2.2.2) s88)) a0 p q) : mm_I (sm (fun (q : Int32 × Int32 × Int32 × Mm) => q.2.2.2) (fun (q : Int32 × Mm) => q.2) x) q = mm_I ((fun (q : Int32 × Int32 × Int32 × Mm) => q.2.2.2) s88) q := by
  have hi : mm_I ((fun (q : Int32 × Int32 × Int32 × Mm) => q.2.2.2) s88) q = mm_I ((fun (q : Int32 × Int32 × Int32 × Mm) => q.2.2.2) s88) q := rfl
  have hp : mm_P ((fun (q : Int32 × Int32 × Int32 × Mm) => q.2.2.2) s88) = mm_P ((fun (q : Int32 × Int32 × Int32 × Mm) => q.2.2.2) s88) := rfl
  have r_a0 : rch (mm_P ((fun (q : Int32 × Int32 × Int32 × Mm) => q.2.2.2) s88)) a0 [] a0 := rfl
  obtain ⟨x91, e91, h⟩ := bd h
  have r_x91 := rch_f r_a0 e91 hp
  obtain ⟨x94, e94, h⟩ := bd h
  rcases ite_e h with ⟨_, h⟩ | ⟨_, h⟩
  · have h := Option.some.inj h
    subst h
    exact hi
  · obtain ⟨x101, e101, h⟩ := bd h
    have r_x101 := rch_f r_a0 e101 hp
    obtain ⟨x106, e106, h⟩ := bd h
    obtain ⟨v108, e108, h⟩ := bd h
    obtain ⟨x113, e113, h⟩ := bd h
    obtain ⟨v122, e122, h⟩ := bd h
    rcases ite_e h with ⟨_, h⟩ | ⟨_, h⟩
    · rcases ite_e h with ⟨_, h⟩ | ⟨_, h⟩
      · exact (i_X1_chooseDay_J160 h ).trans hi
      · obtain ⟨μ144, e144, h⟩ := bd h
        have hi := (ki_pfI e144 (rch_ne c_a0 (by decide) r_a0)).trans hi
        have hp := (kp_pfI e144).trans hp
        obtain ⟨μ149, e149, h⟩ := bd h
        have hi := (ki_pfI e149 (rch_ne c_a0 (by decide) r_a0)).trans hi
        have hp := (kp_pfI e149).trans hp
        obtain ⟨μ157, e157, h⟩ := bd h
        have hi := (ki_pfI e157 (rch_ne c_a0 (by decide) r_a0)).trans hi
        have hp := (kp_pfI e157).trans hp
        exact (i_X1_chooseDay_J160 h ).trans hi
    · exact (i_X1_chooseDay_J160 h ).trans hi
theorem i_X1_chooseDay_W88 {a0 : Nat} {l1 : Int32} {l2 : Int32} {s88 : Int32 × Int32 × Int32 × Mm} {b : Int32 × Mm} {q : Nat} (h : whl (f_X1_chooseDay_L88 a0 l1 l2) s88 = some b) (c_a0 : ∀ p ∈ ([[]] : List (List Nat)), ¬ rch (mm_P ((fun (q : Int32 × Int32 × Int32 × Mm) => q.2.2.2) s88)) a0 p q) : mm_I ((fun (q : Int32 × Mm) => q.2) b) q = mm_I ((fun (q : Int32 × Int32 × Int32 × Mm) => q.2.2.2) s88) q := by
  have key := whl_inv (P := fun s' => mm_I ((fun (q : Int32 × Int32 × Int32 × Mm) => q.2.2.2) s') q = mm_I ((fun (q : Int32 × Int32 × Int32 × Mm) => q.2.2.2) s88) q ∧ mm_P ((fun (q : Int32 × Int32 × Int32 × Mm) => q.2.2.2) s') = mm_P ((fun (q : Int32 × Int32 × Int32 × Mm) => q.2.2.2) s88)) (Q := fun b' => mm_I ((fun (q : Int32 × Mm) => q.2) b') q = mm_I ((fun (q : Int32 × Int32 × Int32 × Mm) => q.2.2.2) s88) q) (fun s' x hs1 hx => ?_) ⟨rfl, rfl⟩ h
  · exact key
  · obtain ⟨h1, hP⟩ := hs1
    have k1 := (i_X1_chooseDay_L88 hx (fun p hp hr => c_a0 p hp (by rw [← hP]; exact hr))).trans h1
    have k2 := (p_X1_chooseDay_L88 hx).trans hP
    cases x with
    | inl z => exact ⟨k1, k2⟩
    | inr z => exact k1
theorem i_X1_chooseDay_J79 {a0 : Nat} {l1 : Int32} {l2 : Int32} {l3 : Int32} {μ : Mm} {x : (Int32 × Mm)} {q : Nat} (h : f_X1_chooseDay_J79 a0 l1 l2 l3 μ = some x) (c_a0 : ∀ p ∈ ([[]] : List (List Nat)), ¬ rch (mm_P μ) a0 p q) : mm_I ((fun (q : (Int32 × Mm)) => q.2) x) q = mm_I μ q := by
  have hi : mm_I μ q = mm_I μ q := rfl
  have hp : mm_P μ = mm_P μ := rfl
  have r_a0 : rch (mm_P μ) a0 [] a0 := rfl
  obtain ⟨b88, w88, h⟩ := bd h
  have hi := (i_X1_chooseDay_W88 w88 (rch_sub c_a0 r_a0 (by decide) hp)).trans hi
  have hp := (p_X1_chooseDay_W88 w88).trans hp
  have h := Option.some.inj h
  subst h
  exact hi
theorem i_X1_chooseDay_J73 {a0 : Nat} {l1 : Int32} {l2 : Int32} {l3 : Int32} {l4 : Nat} {l5 : Int32} {μ : Mm} {x : ((Int32 × Mm) ⊕ (Mm))} {q : Nat} (h : f_X1_chooseDay_J73 a0 l1 l2 l3 l4 l5 μ = some x)  : mm_I ((sm (fun (q : Int32 × Mm) => q.2) (fun (q : Mm) => q)) x) q = mm_I μ q := by
  have hi : mm_I μ q = mm_I μ q := rfl
  have hp : mm_P μ = mm_P μ := rfl
  have r_a0 : rch (mm_P μ) a0 [] a0 := rfl
  have r_l4 : rch (mm_P μ) l4 [] l4 := rfl
  obtain ⟨v73, e73, h⟩ := bd h
  have h := Option.some.inj h
  subst h
  exact hi
theorem i_X1_chooseDay_L18 {a0 : Nat} {l1 : Int32} {l2 : Int32} {l3 : Int32} {l4 : Nat} {s18 : Int32 × Mm} {x : ((Int32 × Mm) ⊕ (Mm))} {q : Nat} (h : f_X1_chooseDay_L18 a0 l1 l2 l3 l4 s18 = some x) (c_a0 : ∀ p ∈ ([[3]] : List (List Nat)), ¬ rch (mm_P ((fun (q : Int32 × Mm) => q.2) s18)) a0 p q) : mm_I (sm (fun (q : Int32 × Mm) => q.2) (fun (q : Mm) => q) x) q = mm_I ((fun (q : Int32 × Mm) => q.2) s18) q := by
  have hi : mm_I ((fun (q : Int32 × Mm) => q.2) s18) q = mm_I ((fun (q : Int32 × Mm) => q.2) s18) q := rfl
  have hp : mm_P ((fun (q : Int32 × Mm) => q.2) s18) = mm_P ((fun (q : Int32 × Mm) => q.2) s18) := rfl
  have r_a0 : rch (mm_P ((fun (q : Int32 × Mm) => q.2) s18)) a0 [] a0 := rfl
  have r_l4 : rch (mm_P ((fun (q : Int32 × Mm) => q.2) s18)) l4 [] l4 := rfl
  obtain ⟨x21, e21, h⟩ := bd h
  rcases ite_e h with ⟨_, h⟩ | ⟨_, h⟩
  · have h := Option.some.inj h
    subst h
    exact hi
  · obtain ⟨x30, e30, h⟩ := bd h
    have r_x30 := rch_f r_a0 e30 hp
    obtain ⟨x33, e33, h⟩ := bd h
    rcases ite_e h with ⟨_, h⟩ | ⟨_, h⟩
    · have h := Option.some.inj h
      subst h
      exact hi
    · obtain ⟨x40, e40, h⟩ := bd h
      have r_x40 := rch_f r_a0 e40 hp
      obtain ⟨x45, e45, h⟩ := bd h
      obtain ⟨x47, e47, h⟩ := bd h
      obtain ⟨x55, e55, h⟩ := bd h
      have r_x55 := rch_f r_a0 e55 hp
      obtain ⟨x58, e58, h⟩ := bd h
      rcases ite_e h with ⟨_, h⟩ | ⟨_, h⟩
      · exact (i_X1_chooseDay_J73 h ).trans hi
      · obtain ⟨x63, e63, h⟩ := bd h
        have r_x63 := rch_f r_a0 e63 hp
        obtain ⟨x69, e69, h⟩ := bd h
        obtain ⟨μ72, e72, h⟩ := bd h
        have hi := (ki_paI e72 (rch_ne c_a0 (by decide) r_x63)).trans hi
        have hp := (kp_paI e72).trans hp
        exact (i_X1_chooseDay_J73 h ).trans hi
theorem i_X1_chooseDay_W18 {a0 : Nat} {l1 : Int32} {l2 : Int32} {l3 : Int32} {l4 : Nat} {s18 : Int32 × Mm} {b : Mm} {q : Nat} (h : whl (f_X1_chooseDay_L18 a0 l1 l2 l3 l4) s18 = some b) (c_a0 : ∀ p ∈ ([[3]] : List (List Nat)), ¬ rch (mm_P ((fun (q : Int32 × Mm) => q.2) s18)) a0 p q) : mm_I ((fun (q : Mm) => q) b) q = mm_I ((fun (q : Int32 × Mm) => q.2) s18) q := by
  have key := whl_inv (P := fun s' => mm_I ((fun (q : Int32 × Mm) => q.2) s') q = mm_I ((fun (q : Int32 × Mm) => q.2) s18) q ∧ mm_P ((fun (q : Int32 × Mm) => q.2) s') = mm_P ((fun (q : Int32 × Mm) => q.2) s18)) (Q := fun b' => mm_I ((fun (q : Mm) => q) b') q = mm_I ((fun (q : Int32 × Mm) => q.2) s18) q) (fun s' x hs1 hx => ?_) ⟨rfl, rfl⟩ h
  · exact key
  · obtain ⟨h1, hP⟩ := hs1
    have k1 := (i_X1_chooseDay_L18 hx (fun p hp hr => c_a0 p hp (by rw [← hP]; exact hr))).trans h1
    have k2 := (p_X1_chooseDay_L18 hx).trans hP
    cases x with
    | inl z => exact ⟨k1, k2⟩
    | inr z => exact k1
theorem i_X1_chooseDay {a0 : Nat} {l1 : Int32} {l2 : Int32} {l3 : Int32} {μ : Mm} {x : (Int32 × Mm)} {q : Nat} (h : f_X1_chooseDay a0 l1 l2 l3 μ = some x) (c_a0 : ∀ p ∈ ([[], [3]] : List (List Nat)), ¬ rch (mm_P μ) a0 p q) : mm_I ((fun (q : (Int32 × Mm)) => q.2) x) q = mm_I μ q := by
  have hi : mm_I μ q = mm_I μ q := rfl
  have hp : mm_P μ = mm_P μ := rfl
  have r_a0 : rch (mm_P μ) a0 [] a0 := rfl
  obtain ⟨_, h⟩ := ite_p h
  obtain ⟨x1, e1, h⟩ := bd h
  have r_x1 := rch_f r_a0 e1 hp
  obtain ⟨x5, e5, h⟩ := bd h
  have hi := (i_J7_fill_53178 e5 (rch_sub c_a0 r_x1 (by decide) hp)).trans hi
  have hp := (p_J7_fill_53178 e5).trans hp
  obtain ⟨x10, e10, h⟩ := bd h
  have r_x10 := rch_lineOf r_a0 e10 hp
  obtain ⟨b18, w18, h⟩ := bd h
  have hi := (i_X1_chooseDay_W18 w18 (rch_sub c_a0 r_a0 (by decide) hp)).trans hi
  have hp := (p_X1_chooseDay_W18 w18).trans hp
  exact (i_X1_chooseDay_J79 h (rch_sub c_a0 r_a0 (by decide) hp)).trans hi
theorem i_X1_findComingsBy_J59 {a0 : Nat} {l1 : Int32} {l2 : Int32} {l3 : Int32} {μ : Mm} {x : ((Int32 × Mm) ⊕ (Mm))} {q : Nat} (h : f_X1_findComingsBy_J59 a0 l1 l2 l3 μ = some x)  : mm_I ((sm (fun (q : Int32 × Mm) => q.2) (fun (q : Mm) => q)) x) q = mm_I μ q := by
  have hi : mm_I μ q = mm_I μ q := rfl
  have hp : mm_P μ = mm_P μ := rfl
  have r_a0 : rch (mm_P μ) a0 [] a0 := rfl
  obtain ⟨v59, e59, h⟩ := bd h
  have h := Option.some.inj h
  subst h
  exact hi
theorem i_X1_findComingsBy_L2 {a0 : Nat} {l1 : Int32} {l2 : Int32} {s2 : Int32 × Mm} {x : ((Int32 × Mm) ⊕ (Mm))} {q : Nat} (h : f_X1_findComingsBy_L2 a0 l1 l2 s2 = some x) (c_a0 : ∀ p ∈ ([[0]] : List (List Nat)), ¬ rch (mm_P ((fun (q : Int32 × Mm) => q.2) s2)) a0 p q) : mm_I (sm (fun (q : Int32 × Mm) => q.2) (fun (q : Mm) => q) x) q = mm_I ((fun (q : Int32 × Mm) => q.2) s2) q := by
  have hi : mm_I ((fun (q : Int32 × Mm) => q.2) s2) q = mm_I ((fun (q : Int32 × Mm) => q.2) s2) q := rfl
  have hp : mm_P ((fun (q : Int32 × Mm) => q.2) s2) = mm_P ((fun (q : Int32 × Mm) => q.2) s2) := rfl
  have r_a0 : rch (mm_P ((fun (q : Int32 × Mm) => q.2) s2)) a0 [] a0 := rfl
  rcases ite_e h with ⟨_, h⟩ | ⟨_, h⟩
  · have h := Option.some.inj h
    subst h
    exact hi
  · rcases ite_e h with ⟨_, h⟩ | ⟨_, h⟩
    · have h := Option.some.inj h
      subst h
      exact hi
    · rcases ite_e h with ⟨_, h⟩ | ⟨_, h⟩
      · exact (i_X1_findComingsBy_J59 h ).trans hi
      · obtain ⟨x24, e24, h⟩ := bd h
        have r_x24 := rch_f r_a0 e24 hp
        obtain ⟨x28, e28, h⟩ := bd h
        have r_x28 := rch_e r_x24 e28 hp
        obtain ⟨x29, e29, h⟩ := bd h
        rcases ite_e h with ⟨_, h⟩ | ⟨_, h⟩
        · exact (i_X1_findComingsBy_J59 h ).trans hi
        · obtain ⟨x34, e34, h⟩ := bd h
          have r_x34 := rch_f r_a0 e34 hp
          obtain ⟨x41, e41, h⟩ := bd h
          have hi := (i_X4_setFact e41 (rch_sub c_a0 r_x34 (by decide) hp)).trans hi
          have hp := (p_X4_setFact e41).trans hp
          obtain ⟨x45, e45, h⟩ := bd h
          have r_x45 := rch_f r_a0 e45 hp
          obtain ⟨x49, e49, h⟩ := bd h
          have r_x49 := rch_e r_x45 e49 hp
          obtain ⟨x52, e52, h⟩ := bd h
          have r_x52 := rch_f r_a0 e52 hp
          obtain ⟨x55, e55, h⟩ := bd h
          obtain ⟨μ58, e58, h⟩ := bd h
          have hi := (ki_paL e58).trans hi
          have hp := (kp_paL e58).trans hp
          exact (i_X1_findComingsBy_J59 h ).trans hi
theorem i_X1_findComingsBy_W2 {a0 : Nat} {l1 : Int32} {l2 : Int32} {s2 : Int32 × Mm} {b : Mm} {q : Nat} (h : whl (f_X1_findComingsBy_L2 a0 l1 l2) s2 = some b) (c_a0 : ∀ p ∈ ([[0]] : List (List Nat)), ¬ rch (mm_P ((fun (q : Int32 × Mm) => q.2) s2)) a0 p q) : mm_I ((fun (q : Mm) => q) b) q = mm_I ((fun (q : Int32 × Mm) => q.2) s2) q := by
  have key := whl_inv (P := fun s' => mm_I ((fun (q : Int32 × Mm) => q.2) s') q = mm_I ((fun (q : Int32 × Mm) => q.2) s2) q ∧ mm_P ((fun (q : Int32 × Mm) => q.2) s') = mm_P ((fun (q : Int32 × Mm) => q.2) s2)) (Q := fun b' => mm_I ((fun (q : Mm) => q) b') q = mm_I ((fun (q : Int32 × Mm) => q.2) s2) q) (fun s' x hs1 hx => ?_) ⟨rfl, rfl⟩ h
  · exact key
  · obtain ⟨h1, hP⟩ := hs1
    have k1 := (i_X1_findComingsBy_L2 hx (fun p hp hr => c_a0 p hp (by rw [← hP]; exact hr))).trans h1
    have k2 := (p_X1_findComingsBy_L2 hx).trans hP
    cases x with
    | inl z => exact ⟨k1, k2⟩
    | inr z => exact k1
theorem i_X1_findComingsBy {a0 : Nat} {l1 : Int32} {l2 : Int32} {μ : Mm} {x : Mm} {q : Nat} (h : f_X1_findComingsBy a0 l1 l2 μ = some x) (c_a0 : ∀ p ∈ ([[0]] : List (List Nat)), ¬ rch (mm_P μ) a0 p q) : mm_I ((fun (q : Mm) => q) x) q = mm_I μ q := by
  have hi : mm_I μ q = mm_I μ q := rfl
  have hp : mm_P μ = mm_P μ := rfl
  have r_a0 : rch (mm_P μ) a0 [] a0 := rfl
  obtain ⟨_, h⟩ := ite_p h
  obtain ⟨b2, w2, h⟩ := bd h
  have hi := (i_X1_findComingsBy_W2 w2 (rch_sub c_a0 r_a0 (by decide) hp)).trans hi
  have hp := (p_X1_findComingsBy_W2 w2).trans hp
  have h := Option.some.inj h
  subst h
  exact hi
theorem i_X9_fillFrom_J14 {q : Nat} {self : Nat → Int32 → Int32 → Int32 → Nat → Int32 → Mm → Option (Int32 × Mm)} (hs : ∀ (a0 : Nat) (l1 : Int32) (l2 : Int32) (l3 : Int32) (l4 : Nat) (l5 : Int32) (μ : Mm) (x : (Int32 × Mm)), self a0 l1 l2 l3 l4 l5 μ = some x → (∀ p ∈ ([[]] : List (List Nat)), ¬ rch (mm_P μ) l4 p q) → mm_I ((fun (z : (Int32 × Mm)) => z.2) x) q = mm_I μ q) (hsp : ∀ (a0 : Nat) (l1 : Int32) (l2 : Int32) (l3 : Int32) (l4 : Nat) (l5 : Int32) (μ : Mm) (x : (Int32 × Mm)), self a0 l1 l2 l3 l4 l5 μ = some x → mm_P ((fun (z : (Int32 × Mm)) => z.2) x) = mm_P μ) {l3 : Int32} {l4 : Nat} {l5 : Int32} {μ : Mm} {x : (Int32 × Mm)} (h : f_X9_fillFrom_J14 self l3 l4 l5 μ = some x) (c_l4 : ∀ p ∈ ([[]] : List (List Nat)), ¬ rch (mm_P μ) l4 p q) : mm_I ((fun (q : (Int32 × Mm)) => q.2) x) q = mm_I μ q := by
  have hi : mm_I μ q = mm_I μ q := rfl
  have hp : mm_P μ = mm_P μ := rfl
  have r_l4 : rch (mm_P μ) l4 [] l4 := rfl
  obtain ⟨x18, e18, h⟩ := bd h
  rcases ite_e h with ⟨_, h⟩ | ⟨_, h⟩
  · have h := Option.some.inj h
    subst h
    exact hi
  · obtain ⟨μ27, e27, h⟩ := bd h
    have hi := (ki_paI e27 (rch_ne c_l4 (by decide) r_l4)).trans hi
    have hp := (kp_paI e27).trans hp
    have h := Option.some.inj h
    subst h
    exact hi
theorem i_X9_fillFrom_J119 {q : Nat} {self : Nat → Int32 → Int32 → Int32 → Nat → Int32 → Mm → Option (Int32 × Mm)} (hs : ∀ (a0 : Nat) (l1 : Int32) (l2 : Int32) (l3 : Int32) (l4 : Nat) (l5 : Int32) (μ : Mm) (x : (Int32 × Mm)), self a0 l1 l2 l3 l4 l5 μ = some x → (∀ p ∈ ([[]] : List (List Nat)), ¬ rch (mm_P μ) l4 p q) → mm_I ((fun (z : (Int32 × Mm)) => z.2) x) q = mm_I μ q) (hsp : ∀ (a0 : Nat) (l1 : Int32) (l2 : Int32) (l3 : Int32) (l4 : Nat) (l5 : Int32) (μ : Mm) (x : (Int32 × Mm)), self a0 l1 l2 l3 l4 l5 μ = some x → mm_P ((fun (z : (Int32 × Mm)) => z.2) x) = mm_P μ) {a0 : Nat} {l1 : Int32} {l2 : Int32} {l3 : Int32} {l4 : Nat} {l6 : Int32} {l7 : Int32} {l8 : Int32} {l9 : Int32} {μ : Mm} {x : ((Int32 × Int32 × Mm) ⊕ (Int32 × Mm))} (h : f_X9_fillFrom_J119 self a0 l1 l2 l3 l4 l6 l7 l8 l9 μ = some x)  : mm_I ((sm (fun (q : Int32 × Int32 × Mm) => q.2.2) (fun (q : Int32 × Mm) => q.2)) x) q = mm_I μ q := by
  have hi : mm_I μ q = mm_I μ q := rfl
  have hp : mm_P μ = mm_P μ := rfl
  have r_a0 : rch (mm_P μ) a0 [] a0 := rfl
  have r_l4 : rch (mm_P μ) l4 [] l4 := rfl
  obtain ⟨v119, e119, h⟩ := bd h
  have h := Option.some.inj h
  subst h
  exact hi
theorem i_X9_fillFrom_L61 {q : Nat} {self : Nat → Int32 → Int32 → Int32 → Nat → Int32 → Mm → Option (Int32 × Mm)} (hs : ∀ (a0 : Nat) (l1 : Int32) (l2 : Int32) (l3 : Int32) (l4 : Nat) (l5 : Int32) (μ : Mm) (x : (Int32 × Mm)), self a0 l1 l2 l3 l4 l5 μ = some x → (∀ p ∈ ([[]] : List (List Nat)), ¬ rch (mm_P μ) l4 p q) → mm_I ((fun (z : (Int32 × Mm)) => z.2) x) q = mm_I μ q) (hsp : ∀ (a0 : Nat) (l1 : Int32) (l2 : Int32) (l3 : Int32) (l4 : Nat) (l5 : Int32) (μ : Mm) (x : (Int32 × Mm)), self a0 l1 l2 l3 l4 l5 μ = some x → mm_P ((fun (z : (Int32 × Mm)) => z.2) x) = mm_P μ) {a0 : Nat} {l1 : Int32} {l2 : Int32} {l3 : Int32} {l4 : Nat} {l6 : Int32} {l7 : Int32} {s61 : Int32 × Int32 × Mm} {x : ((Int32 × Int32 × Mm) ⊕ (Int32 × Mm))} (h : f_X9_fillFrom_L61 self a0 l1 l2 l3 l4 l6 l7 s61 = some x) (c_l4 : ∀ p ∈ ([[]] : List (List Nat)), ¬ rch (mm_P ((fun (q : Int32 × Int32 × Mm) => q.2.2) s61)) l4 p q) : mm_I (sm (fun (q : Int32 × Int32 × Mm) => q.2.2) (fun (q : Int32 × Mm) => q.2) x) q = mm_I ((fun (q : Int32 × Int32 × Mm) => q.2.2) s61) q := by
  have hi : mm_I ((fun (q : Int32 × Int32 × Mm) => q.2.2) s61) q = mm_I ((fun (q : Int32 × Int32 × Mm) => q.2.2) s61) q := rfl
  have hp : mm_P ((fun (q : Int32 × Int32 × Mm) => q.2.2) s61) = mm_P ((fun (q : Int32 × Int32 × Mm) => q.2.2) s61) := rfl
  have r_a0 : rch (mm_P ((fun (q : Int32 × Int32 × Mm) => q.2.2) s61)) a0 [] a0 := rfl
  have r_l4 : rch (mm_P ((fun (q : Int32 × Int32 × Mm) => q.2.2) s61)) l4 [] l4 := rfl
  rcases ite_e h with ⟨_, h⟩ | ⟨_, h⟩
  · have h := Option.some.inj h
    subst h
    exact hi
  · obtain ⟨v74, e74, h⟩ := bd h
    rcases ite_e h with ⟨_, h⟩ | ⟨_, h⟩
    · exact (i_X9_fillFrom_J119 hs hsp h ).trans hi
    · obtain ⟨x87, e87, h⟩ := bd h
      have r_x87 := rch_f r_a0 e87 hp
      obtain ⟨x92, e92, h⟩ := bd h
      rcases ite_e h with ⟨_, h⟩ | ⟨_, h⟩
      · exact (i_X9_fillFrom_J119 hs hsp h ).trans hi
      · obtain ⟨x107, e107, h⟩ := bd h
        obtain ⟨x114, e114, h⟩ := bd h
        have hi := (hs a0 (l1 + (1 : Int32)) v74 x107 l4 s61.1 s61.2.2 _ e114 (rch_sub c_l4 r_l4 (by decide) hp)).trans hi
        have hp := (hsp a0 (l1 + (1 : Int32)) v74 x107 l4 s61.1 s61.2.2 _ e114).trans hp
        exact (i_X9_fillFrom_J119 hs hsp h ).trans hi
theorem i_X9_fillFrom_W61 {q : Nat} {self : Nat → Int32 → Int32 → Int32 → Nat → Int32 → Mm → Option (Int32 × Mm)} (hs : ∀ (a0 : Nat) (l1 : Int32) (l2 : Int32) (l3 : Int32) (l4 : Nat) (l5 : Int32) (μ : Mm) (x : (Int32 × Mm)), self a0 l1 l2 l3 l4 l5 μ = some x → (∀ p ∈ ([[]] : List (List Nat)), ¬ rch (mm_P μ) l4 p q) → mm_I ((fun (z : (Int32 × Mm)) => z.2) x) q = mm_I μ q) (hsp : ∀ (a0 : Nat) (l1 : Int32) (l2 : Int32) (l3 : Int32) (l4 : Nat) (l5 : Int32) (μ : Mm) (x : (Int32 × Mm)), self a0 l1 l2 l3 l4 l5 μ = some x → mm_P ((fun (z : (Int32 × Mm)) => z.2) x) = mm_P μ) {a0 : Nat} {l1 : Int32} {l2 : Int32} {l3 : Int32} {l4 : Nat} {l6 : Int32} {l7 : Int32} {s61 : Int32 × Int32 × Mm} {b : Int32 × Mm} (h : whl (f_X9_fillFrom_L61 self a0 l1 l2 l3 l4 l6 l7) s61 = some b) (c_l4 : ∀ p ∈ ([[]] : List (List Nat)), ¬ rch (mm_P ((fun (q : Int32 × Int32 × Mm) => q.2.2) s61)) l4 p q) : mm_I ((fun (q : Int32 × Mm) => q.2) b) q = mm_I ((fun (q : Int32 × Int32 × Mm) => q.2.2) s61) q := by
  have key := whl_inv (P := fun s' => mm_I ((fun (q : Int32 × Int32 × Mm) => q.2.2) s') q = mm_I ((fun (q : Int32 × Int32 × Mm) => q.2.2) s61) q ∧ mm_P ((fun (q : Int32 × Int32 × Mm) => q.2.2) s') = mm_P ((fun (q : Int32 × Int32 × Mm) => q.2.2) s61)) (Q := fun b' => mm_I ((fun (q : Int32 × Mm) => q.2) b') q = mm_I ((fun (q : Int32 × Int32 × Mm) => q.2.2) s61) q) (fun s' x hs1 hx => ?_) ⟨rfl, rfl⟩ h
  · exact key
  · obtain ⟨h1, hP⟩ := hs1
    have k1 := (i_X9_fillFrom_L61 hs hsp hx (fun p hp hr => c_l4 p hp (by rw [← hP]; exact hr))).trans h1
    have k2 := (p_X9_fillFrom_L61 hsp hx).trans hP
    cases x with
    | inl z => exact ⟨k1, k2⟩
    | inr z => exact k1
theorem i_X9_fillFrom_B {q : Nat} {self : Nat → Int32 → Int32 → Int32 → Nat → Int32 → Mm → Option (Int32 × Mm)} (hs : ∀ (a0 : Nat) (l1 : Int32) (l2 : Int32) (l3 : Int32) (l4 : Nat) (l5 : Int32) (μ : Mm) (x : (Int32 × Mm)), self a0 l1 l2 l3 l4 l5 μ = some x → (∀ p ∈ ([[]] : List (List Nat)), ¬ rch (mm_P μ) l4 p q) → mm_I ((fun (z : (Int32 × Mm)) => z.2) x) q = mm_I μ q) (hsp : ∀ (a0 : Nat) (l1 : Int32) (l2 : Int32) (l3 : Int32) (l4 : Nat) (l5 : Int32) (μ : Mm) (x : (Int32 × Mm)), self a0 l1 l2 l3 l4 l5 μ = some x → mm_P ((fun (z : (Int32 × Mm)) => z.2) x) = mm_P μ) {a0 : Nat} {l1 : Int32} {l2 : Int32} {l3 : Int32} {l4 : Nat} {l5 : Int32} {μ : Mm} {x : (Int32 × Mm)} (h : f_X9_fillFrom_B self a0 l1 l2 l3 l4 l5 μ = some x) (c_l4 : ∀ p ∈ ([[]] : List (List Nat)), ¬ rch (mm_P μ) l4 p q) : mm_I ((fun (q : (Int32 × Mm)) => q.2) x) q = mm_I μ q := by
  have hi : mm_I μ q = mm_I μ q := rfl
  have hp : mm_P μ = mm_P μ := rfl
  have r_a0 : rch (mm_P μ) a0 [] a0 := rfl
  have r_l4 : rch (mm_P μ) l4 [] l4 := rfl
  obtain ⟨_, h⟩ := ite_p h
  obtain ⟨x2, e2, h⟩ := bd h
  rcases ite_e h with ⟨_, h⟩ | ⟨_, h⟩
  · exact (i_X9_fillFrom_J14 hs hsp h (rch_sub c_l4 r_l4 (by decide) hp)).trans hi
  · rcases ite_e h with ⟨_, h⟩ | ⟨_, h⟩
    · obtain ⟨x34, e34, h⟩ := bd h
      have r_x34 := rch_f r_a0 e34 hp
      obtain ⟨x38, e38, h⟩ := bd h
      obtain ⟨x42, e42, h⟩ := bd h
      have r_x42 := rch_f r_a0 e42 hp
      obtain ⟨x47, e47, h⟩ := bd h
      obtain ⟨v52, e52, h⟩ := bd h
      obtain ⟨b61, w61, h⟩ := bd h
      have hi := (i_X9_fillFrom_W61 hs hsp w61 (rch_sub c_l4 r_l4 (by decide) hp)).trans hi
      have hp := (p_X9_fillFrom_W61 hsp w61).trans hp
      have h := Option.some.inj h
      subst h
      exact hi
    · exact (i_X9_fillFrom_J14 hs hsp h (rch_sub c_l4 r_l4 (by decide) hp)).trans hi
theorem i_X9_fillFrom {n : Nat} {q : Nat} : ∀ {a0 : Nat} {l1 : Int32} {l2 : Int32} {l3 : Int32} {l4 : Nat} {l5 : Int32} {μ : Mm} {x : (Int32 × Mm)}, f_X9_fillFrom n a0 l1 l2 l3 l4 l5 μ = some x → (∀ p ∈ ([[]] : List (List Nat)), ¬ rch (mm_P μ) l4 p q) → mm_I ((fun (q : (Int32 × Mm)) => q.2) x) q = mm_I μ q := by
  induction n with
  | zero => intro a0 l1 l2 l3 l4 l5 μ x h; cases h
  | succ n ih => intro a0 l1 l2 l3 l4 l5 μ x h c_l4; exact i_X9_fillFrom_B (fun _ _ _ _ _ _ μ x h c_l4 => ih h c_l4) (fun _ _ _ _ _ _ μ x h => p_X9_fillFrom h) h c_l4
theorem i_X9_fillRows {a0 : Nat} {l1 : Nat} {μ : Mm} {x : Mm} {q : Nat} (h : f_X9_fillRows a0 l1 μ = some x) (c_l1 : ∀ p ∈ ([[]] : List (List Nat)), ¬ rch (mm_P μ) l1 p q) : mm_I ((fun (q : Mm) => q) x) q = mm_I μ q := by
  have hi : mm_I μ q = mm_I μ q := rfl
  have hp : mm_P μ = mm_P μ := rfl
  have r_a0 : rch (mm_P μ) a0 [] a0 := rfl
  have r_l1 : rch (mm_P μ) l1 [] l1 := rfl
  obtain ⟨_, h⟩ := ite_p h
  obtain ⟨x6, e6, h⟩ := bd h
  have hi := (i_X9_fillFrom e6 (rch_sub c_l1 r_l1 (by decide) hp)).trans hi
  have hp := (p_X9_fillFrom e6).trans hp
  have h := Option.some.inj h
  subst h
  exact hi
theorem i_X3_start {a0 : Nat} {l1 : Int32} {l2 : Int32} {μ : Mm} {x : Mm} {q : Nat} (h : f_X3_start a0 l1 l2 μ = some x) (c_a0 : ∀ p ∈ ([[], [0]] : List (List Nat)), ¬ rch (mm_P μ) a0 p q) : mm_I ((fun (q : Mm) => q) x) q = mm_I μ q := by
  have hi : mm_I μ q = mm_I μ q := rfl
  have hp : mm_P μ = mm_P μ := rfl
  have r_a0 : rch (mm_P μ) a0 [] a0 := rfl
  obtain ⟨_, h⟩ := ite_p h
  obtain ⟨μ2, e2, h⟩ := bd h
  have hi := (ki_pfZ e2 (rch_ne c_a0 (by decide) r_a0)).trans hi
  have hp := (kp_pfZ e2).trans hp
  obtain ⟨μ7, e7, h⟩ := bd h
  have hi := (ki_pfI e7 (rch_ne c_a0 (by decide) r_a0)).trans hi
  have hp := (kp_pfI e7).trans hp
  obtain ⟨μ12, e12, h⟩ := bd h
  have hi := (ki_pfI e12 (rch_ne c_a0 (by decide) r_a0)).trans hi
  have hp := (kp_pfI e12).trans hp
  obtain ⟨μ17, e17, h⟩ := bd h
  have hi := (ki_pfI e17 (rch_ne c_a0 (by decide) r_a0)).trans hi
  have hp := (kp_pfI e17).trans hp
  obtain ⟨x21, e21, h⟩ := bd h
  have r_x21 := rch_f r_a0 e21 hp
  obtain ⟨x25, e25, h⟩ := bd h
  have hi := (i_J7_fill_53178 e25 (rch_sub c_a0 r_x21 (by decide) hp)).trans hi
  have hp := (p_J7_fill_53178 e25).trans hp
  have h := Option.some.inj h
  subst h
  exact hi
theorem i_X10_begin {a0 : Nat} {l1 : Int32} {μ : Mm} {x : (Int32 × Mm)} {q : Nat} (h : f_X10_begin a0 l1 μ = some x) (c_a0 : ∀ p ∈ ([[6], [6, 0]] : List (List Nat)), ¬ rch (mm_P μ) a0 p q) : mm_I ((fun (q : (Int32 × Mm)) => q.2) x) q = mm_I μ q := by
  have hi : mm_I μ q = mm_I μ q := rfl
  have hp : mm_P μ = mm_P μ := rfl
  have r_a0 : rch (mm_P μ) a0 [] a0 := rfl
  obtain ⟨_, h⟩ := ite_p h
  rcases ite_e h with ⟨_, h⟩ | ⟨_, h⟩
  · obtain ⟨x8, e8, h⟩ := bd h
    have r_x8 := rch_f r_a0 e8 hp
    obtain ⟨x13, e13, h⟩ := bd h
    obtain ⟨x16, e16, h⟩ := bd h
    have hi := (i_X3_start e16 (rch_sub c_a0 r_x8 (by decide) hp)).trans hi
    have hp := (p_X3_start e16).trans hp
    have h := Option.some.inj h
    subst h
    exact hi
  · have h := Option.some.inj h
    subst h
    exact hi
theorem i_X4_isComing {a0 : Nat} {l1 : Int32} {l2 : Int32} {l3 : Int32} {l4 : Int32} {μ : Mm} {x : (Int32 × Mm)} {q : Nat} (h : f_X4_isComing a0 l1 l2 l3 l4 μ = some x) (c_a0 : ∀ p ∈ ([[]] : List (List Nat)), ¬ rch (mm_P μ) a0 p q) : mm_I ((fun (q : (Int32 × Mm)) => q.2) x) q = mm_I μ q := by
  have hi : mm_I μ q = mm_I μ q := rfl
  have hp : mm_P μ = mm_P μ := rfl
  have r_a0 : rch (mm_P μ) a0 [] a0 := rfl
  obtain ⟨_, h⟩ := ite_p h
  obtain ⟨μ2, e2, h⟩ := bd h
  have hi := (ki_pfI e2 (rch_ne c_a0 (by decide) r_a0)).trans hi
  have hp := (kp_pfI e2).trans hp
  obtain ⟨μ8, e8, h⟩ := bd h
  have hi := (ki_pfI e8 (rch_ne c_a0 (by decide) r_a0)).trans hi
  have hp := (kp_pfI e8).trans hp
  rcases ite_e h with ⟨_, h⟩ | ⟨_, h⟩
  · have h := Option.some.inj h
    subst h
    exact hi
  · have h := Option.some.inj h
    subst h
    exact hi
theorem i_X4_findComing_J114 {a0 : Nat} {l1 : Int32} {l2 : Int32} {l3 : Int32} {μ : Mm} {x : ((Int32 × Int32 × Mm) ⊕ ((Mm) ⊕ ((Mm) ⊕ ((Mm) ⊕ ((Mm) ⊕ (Mm))))))} {q : Nat} (h : f_X4_findComing_J114 a0 l1 l2 l3 μ = some x) (c_a0 : ∀ p ∈ ([[]] : List (List Nat)), ¬ rch (mm_P μ) a0 p q) : mm_I ((sm (fun (q : Int32 × Int32 × Mm) => q.2.2) (sm (fun (q : Mm) => q) (sm (fun (q : Mm) => q) (sm (fun (q : Mm) => q) (sm (fun (q : Mm) => q) (fun (q : Mm) => q)))))) x) q = mm_I μ q := by
  have hi : mm_I μ q = mm_I μ q := rfl
  have hp : mm_P μ = mm_P μ := rfl
  have r_a0 : rch (mm_P μ) a0 [] a0 := rfl
  obtain ⟨x117, e117, h⟩ := bd h
  obtain ⟨x126, e126, h⟩ := bd h
  have r_x126 := rch_f r_a0 e126 hp
  obtain ⟨x130, e130, h⟩ := bd h
  obtain ⟨x131, e131, h⟩ := bd h
  have hi := (i_X4_isComing e131 (rch_sub c_a0 r_a0 (by decide) hp)).trans hi
  have hp := (p_X4_isComing e131).trans hp
  rcases ite_e h with ⟨_, h⟩ | ⟨_, h⟩
  · obtain ⟨v139, e139, h⟩ := bd h
    have h := Option.some.inj h
    subst h
    exact hi
  · have h := Option.some.inj h
    subst h
    exact hi
theorem i_X4_findComing_L66 {a0 : Nat} {l1 : Int32} {l3 : Int32} {s66 : Int32 × Int32 × Mm} {x : ((Int32 × Int32 × Mm) ⊕ ((Mm) ⊕ (Int32 × Mm)))} {q : Nat} (h : f_X4_findComing_L66 a0 l1 l3 s66 = some x) (c_a0 : ∀ p ∈ ([[]] : List (List Nat)), ¬ rch (mm_P ((fun (q : Int32 × Int32 × Mm) => q.2.2) s66)) a0 p q) : mm_I (sm (fun (q : Int32 × Int32 × Mm) => q.2.2) (sm (fun (q : Mm) => q) (fun (q : Int32 × Mm) => q.2)) x) q = mm_I ((fun (q : Int32 × Int32 × Mm) => q.2.2) s66) q := by
  have hi : mm_I ((fun (q : Int32 × Int32 × Mm) => q.2.2) s66) q = mm_I ((fun (q : Int32 × Int32 × Mm) => q.2.2) s66) q := rfl
  have hp : mm_P ((fun (q : Int32 × Int32 × Mm) => q.2.2) s66) = mm_P ((fun (q : Int32 × Int32 × Mm) => q.2.2) s66) := rfl
  have r_a0 : rch (mm_P ((fun (q : Int32 × Int32 × Mm) => q.2.2) s66)) a0 [] a0 := rfl
  obtain ⟨x69, e69, h⟩ := bd h
  have r_x69 := rch_f r_a0 e69 hp
  obtain ⟨x72, e72, h⟩ := bd h
  rcases ite_e h with ⟨_, h⟩ | ⟨_, h⟩
  · have h := Option.some.inj h
    subst h
    exact hi
  · obtain ⟨x85, e85, h⟩ := bd h
    obtain ⟨x97, e97, h⟩ := bd h
    obtain ⟨x100, e100, h⟩ := bd h
    have hi := (i_X4_isComing e100 (rch_sub c_a0 r_a0 (by decide) hp)).trans hi
    have hp := (p_X4_isComing e100).trans hp
    rcases ite_e h with ⟨_, h⟩ | ⟨_, h⟩
    · obtain ⟨v108, e108, h⟩ := bd h
      have h := Option.some.inj h
      subst h
      exact hi
    · have h := Option.some.inj h
      subst h
      exact hi
theorem i_X4_findComing_W66 {a0 : Nat} {l1 : Int32} {l3 : Int32} {s66 : Int32 × Int32 × Mm} {b : (Mm) ⊕ (Int32 × Mm)} {q : Nat} (h : whl (f_X4_findComing_L66 a0 l1 l3) s66 = some b) (c_a0 : ∀ p ∈ ([[]] : List (List Nat)), ¬ rch (mm_P ((fun (q : Int32 × Int32 × Mm) => q.2.2) s66)) a0 p q) : mm_I ((sm (fun (q : Mm) => q) (fun (q : Int32 × Mm) => q.2)) b) q = mm_I ((fun (q : Int32 × Int32 × Mm) => q.2.2) s66) q := by
  have key := whl_inv (P := fun s' => mm_I ((fun (q : Int32 × Int32 × Mm) => q.2.2) s') q = mm_I ((fun (q : Int32 × Int32 × Mm) => q.2.2) s66) q ∧ mm_P ((fun (q : Int32 × Int32 × Mm) => q.2.2) s') = mm_P ((fun (q : Int32 × Int32 × Mm) => q.2.2) s66)) (Q := fun b' => mm_I ((sm (fun (q : Mm) => q) (fun (q : Int32 × Mm) => q.2)) b') q = mm_I ((fun (q : Int32 × Int32 × Mm) => q.2.2) s66) q) (fun s' x hs1 hx => ?_) ⟨rfl, rfl⟩ h
  · exact key
  · obtain ⟨h1, hP⟩ := hs1
    have k1 := (i_X4_findComing_L66 hx (fun p hp hr => c_a0 p hp (by rw [← hP]; exact hr))).trans h1
    have k2 := (p_X4_findComing_L66 hx).trans hP
    cases x with
    | inl z => exact ⟨k1, k2⟩
    | inr z => exact k1
theorem i_X4_findComing_L7 {a0 : Nat} {l1 : Int32} {s7 : Int32 × Int32 × Mm} {x : ((Int32 × Int32 × Mm) ⊕ ((Mm) ⊕ ((Mm) ⊕ ((Mm) ⊕ ((Mm) ⊕ (Mm))))))} {q : Nat} (h : f_X4_findComing_L7 a0 l1 s7 = some x) (c_a0 : ∀ p ∈ ([[]] : List (List Nat)), ¬ rch (mm_P ((fun (q : Int32 × Int32 × Mm) => q.2.2) s7)) a0 p q) : mm_I (sm (fun (q : Int32 × Int32 × Mm) => q.2.2) (sm (fun (q : Mm) => q) (sm (fun (q : Mm) => q) (sm (fun (q : Mm) => q) (sm (fun (q : Mm) => q) (fun (q : Mm) => q))))) x) q = mm_I ((fun (q : Int32 × Int32 × Mm) => q.2.2) s7) q := by
  have hi : mm_I ((fun (q : Int32 × Int32 × Mm) => q.2.2) s7) q = mm_I ((fun (q : Int32 × Int32 × Mm) => q.2.2) s7) q := rfl
  have hp : mm_P ((fun (q : Int32 × Int32 × Mm) => q.2.2) s7) = mm_P ((fun (q : Int32 × Int32 × Mm) => q.2.2) s7) := rfl
  have r_a0 : rch (mm_P ((fun (q : Int32 × Int32 × Mm) => q.2.2) s7)) a0 [] a0 := rfl
  rcases ite_e h with ⟨_, h⟩ | ⟨_, h⟩
  · have h := Option.some.inj h
    subst h
    exact hi
  · obtain ⟨μ15, e15, h⟩ := bd h
    have hi := (ki_pfI e15 (rch_ne c_a0 (by decide) r_a0)).trans hi
    have hp := (kp_pfI e15).trans hp
    obtain ⟨x21, e21, h⟩ := bd h
    obtain ⟨x30, e30, h⟩ := bd h
    have hi := (i_X4_isComing e30 (rch_sub c_a0 r_a0 (by decide) hp)).trans hi
    have hp := (p_X4_isComing e30).trans hp
    rcases ite_e h with ⟨_, h⟩ | ⟨_, h⟩
    · obtain ⟨x41, e41, h⟩ := bd h
      obtain ⟨x50, e50, h⟩ := bd h
      have r_x50 := rch_f r_a0 e50 hp
      obtain ⟨x54, e54, h⟩ := bd h
      obtain ⟨x55, e55, h⟩ := bd h
      have hi := (i_X4_isComing e55 (rch_sub c_a0 r_a0 (by decide) hp)).trans hi
      have hp := (p_X4_isComing e55).trans hp
      rcases ite_e h with ⟨_, h⟩ | ⟨_, h⟩
      · obtain ⟨b66, w66, h⟩ := bd h
        have hi := (i_X4_findComing_W66 w66 (rch_sub c_a0 r_a0 (by decide) hp)).trans hi
        have hp := (p_X4_findComing_W66 w66).trans hp
        rcases b66 with b66 | b66
        · have h := Option.some.inj h
          subst h
          exact hi
        · exact (i_X4_findComing_J114 h (rch_sub c_a0 r_a0 (by decide) hp)).trans hi
      · have h := Option.some.inj h
        subst h
        exact hi
    · have h := Option.some.inj h
      subst h
      exact hi
theorem i_X4_findComing_W7 {a0 : Nat} {l1 : Int32} {s7 : Int32 × Int32 × Mm} {b : (Mm) ⊕ ((Mm) ⊕ ((Mm) ⊕ ((Mm) ⊕ (Mm))))} {q : Nat} (h : whl (f_X4_findComing_L7 a0 l1) s7 = some b) (c_a0 : ∀ p ∈ ([[]] : List (List Nat)), ¬ rch (mm_P ((fun (q : Int32 × Int32 × Mm) => q.2.2) s7)) a0 p q) : mm_I ((sm (fun (q : Mm) => q) (sm (fun (q : Mm) => q) (sm (fun (q : Mm) => q) (sm (fun (q : Mm) => q) (fun (q : Mm) => q))))) b) q = mm_I ((fun (q : Int32 × Int32 × Mm) => q.2.2) s7) q := by
  have key := whl_inv (P := fun s' => mm_I ((fun (q : Int32 × Int32 × Mm) => q.2.2) s') q = mm_I ((fun (q : Int32 × Int32 × Mm) => q.2.2) s7) q ∧ mm_P ((fun (q : Int32 × Int32 × Mm) => q.2.2) s') = mm_P ((fun (q : Int32 × Int32 × Mm) => q.2.2) s7)) (Q := fun b' => mm_I ((sm (fun (q : Mm) => q) (sm (fun (q : Mm) => q) (sm (fun (q : Mm) => q) (sm (fun (q : Mm) => q) (fun (q : Mm) => q))))) b') q = mm_I ((fun (q : Int32 × Int32 × Mm) => q.2.2) s7) q) (fun s' x hs1 hx => ?_) ⟨rfl, rfl⟩ h
  · exact key
  · obtain ⟨h1, hP⟩ := hs1
    have k1 := (i_X4_findComing_L7 hx (fun p hp hr => c_a0 p hp (by rw [← hP]; exact hr))).trans h1
    have k2 := (p_X4_findComing_L7 hx).trans hP
    cases x with
    | inl z => exact ⟨k1, k2⟩
    | inr z => exact k1
theorem i_X4_findComing {a0 : Nat} {l1 : Int32} {μ : Mm} {x : (Int32 × Mm)} {q : Nat} (h : f_X4_findComing a0 l1 μ = some x) (c_a0 : ∀ p ∈ ([[]] : List (List Nat)), ¬ rch (mm_P μ) a0 p q) : mm_I ((fun (q : (Int32 × Mm)) => q.2) x) q = mm_I μ q := by
  have hi : mm_I μ q = mm_I μ q := rfl
  have hp : mm_P μ = mm_P μ := rfl
  have r_a0 : rch (mm_P μ) a0 [] a0 := rfl
  obtain ⟨_, h⟩ := ite_p h
  obtain ⟨x3, e3, h⟩ := bd h
  obtain ⟨b7, w7, h⟩ := bd h
  have hi := (i_X4_findComing_W7 w7 (rch_sub c_a0 r_a0 (by decide) hp)).trans hi
  have hp := (p_X4_findComing_W7 w7).trans hp
  rcases b7 with b7 | b7
  · have h := Option.some.inj h
    subst h
    exact hi
  · rcases b7 with b7 | b7
    · have h := Option.some.inj h
      subst h
      exact hi
    · rcases b7 with b7 | b7
      · have h := Option.some.inj h
        subst h
        exact hi
      · rcases b7 with b7 | b7
        · have h := Option.some.inj h
          subst h
          exact hi
        · have h := Option.some.inj h
          subst h
          exact hi
theorem i_X10_comes {a0 : Nat} {l1 : Int32} {l2 : Int32} {l3 : Int32} {l4 : Int32} {μ : Mm} {x : (Int32 × Mm)} {q : Nat} (h : f_X10_comes a0 l1 l2 l3 l4 μ = some x) (c_a0 : ∀ p ∈ ([[3], [3, 3], [3, 4]] : List (List Nat)), ¬ rch (mm_P μ) a0 p q) : mm_I ((fun (q : (Int32 × Mm)) => q.2) x) q = mm_I μ q := by
  have hi : mm_I μ q = mm_I μ q := rfl
  have hp : mm_P μ = mm_P μ := rfl
  have r_a0 : rch (mm_P μ) a0 [] a0 := rfl
  obtain ⟨_, h⟩ := ite_p h
  obtain ⟨x1, e1, h⟩ := bd h
  have r_x1 := rch_f r_a0 e1 hp
  obtain ⟨x5, e5, h⟩ := bd h
  rcases ite_e h with ⟨_, h⟩ | ⟨_, h⟩
  · have h := Option.some.inj h
    subst h
    exact hi
  · obtain ⟨x12, e12, h⟩ := bd h
    have r_x12 := rch_f r_a0 e12 hp
    obtain ⟨x16, e16, h⟩ := bd h
    rcases ite_e h with ⟨_, h⟩ | ⟨_, h⟩
    · have h := Option.some.inj h
      subst h
      exact hi
    · obtain ⟨x23, e23, h⟩ := bd h
      rcases ite_e h with ⟨_, h⟩ | ⟨_, h⟩
      · have h := Option.some.inj h
        subst h
        exact hi
      · rcases ite_e h with ⟨_, h⟩ | ⟨_, h⟩
        · have h := Option.some.inj h
          subst h
          exact hi
        · rcases ite_e h with ⟨_, h⟩ | ⟨_, h⟩
          · obtain ⟨x47, e47, h⟩ := bd h
            have r_x47 := rch_f r_a0 e47 hp
            obtain ⟨x51, e51, h⟩ := bd h
            obtain ⟨x54, e54, h⟩ := bd h
            have hi := (i_X4_setTurning e54 (rch_sub c_a0 r_x47 (by decide) hp)).trans hi
            have hp := (p_X4_setTurning e54).trans hp
            obtain ⟨x58, e58, h⟩ := bd h
            have r_x58 := rch_f r_a0 e58 hp
            obtain ⟨x64, e64, h⟩ := bd h
            have hi := (i_X4_setFact e64 (rch_sub c_a0 r_x58 (by decide) hp)).trans hi
            have hp := (p_X4_setFact e64).trans hp
            obtain ⟨x68, e68, h⟩ := bd h
            have r_x68 := rch_f r_a0 e68 hp
            obtain ⟨x72, e72, h⟩ := bd h
            have hi := (i_X4_findComing e72 (rch_sub c_a0 r_x68 (by decide) hp)).trans hi
            have hp := (p_X4_findComing e72).trans hp
            rcases ite_e h with ⟨_, h⟩ | ⟨_, h⟩
            · have h := Option.some.inj h
              subst h
              exact hi
            · rcases ite_e h with ⟨_, h⟩ | ⟨_, h⟩
              · obtain ⟨x86, e86, h⟩ := bd h
                have r_x86 := rch_f r_a0 e86 hp
                obtain ⟨x89, e89, h⟩ := bd h
                have h := Option.some.inj h
                subst h
                exact hi
              · rcases ite_e h with ⟨_, h⟩ | ⟨_, h⟩
                · obtain ⟨x100, e100, h⟩ := bd h
                  have r_x100 := rch_f r_a0 e100 hp
                  obtain ⟨x103, e103, h⟩ := bd h
                  have h := Option.some.inj h
                  subst h
                  exact hi
                · obtain ⟨x110, e110, h⟩ := bd h
                  have r_x110 := rch_f r_a0 e110 hp
                  obtain ⟨x113, e113, h⟩ := bd h
                  have h := Option.some.inj h
                  subst h
                  exact hi
          · have h := Option.some.inj h
            subst h
            exact hi
theorem i_X10_end {a0 : Nat} {l1 : Int32} {μ : Mm} {x : (Int32 × Mm)} {q : Nat} (h : f_X10_end a0 l1 μ = some x) (c_a0 : ∀ p ∈ ([[0]] : List (List Nat)), ¬ rch (mm_P μ) a0 p q) : mm_I ((fun (q : (Int32 × Mm)) => q.2) x) q = mm_I μ q := by
  have hi : mm_I μ q = mm_I μ q := rfl
  have hp : mm_P μ = mm_P μ := rfl
  have r_a0 : rch (mm_P μ) a0 [] a0 := rfl
  obtain ⟨_, h⟩ := ite_p h
  rcases ite_e h with ⟨_, h⟩ | ⟨_, h⟩
  · have h := Option.some.inj h
    subst h
    exact hi
  · obtain ⟨x6, e6, h⟩ := bd h
    have r_x6 := rch_f r_a0 e6 hp
    obtain ⟨x9, e9, h⟩ := bd h
    rcases ite_e h with ⟨_, h⟩ | ⟨_, h⟩
    · obtain ⟨x18, e18, h⟩ := bd h
      have r_x18 := rch_f r_a0 e18 hp
      obtain ⟨μ22, e22, h⟩ := bd h
      have hi := (ki_pfI e22 (rch_ne c_a0 (by decide) r_x18)).trans hi
      have hp := (kp_pfI e22).trans hp
      have h := Option.some.inj h
      subst h
      exact hi
    · have h := Option.some.inj h
      subst h
      exact hi
theorem i_X5_append_J43 {a0 : Nat} {l1 : Int32} {l2 : Int32} {μ : Mm} {x : ((Int32 × Mm) ⊕ (Mm))} {q : Nat} (h : f_X5_append_J43 a0 l1 l2 μ = some x)  : mm_I ((sm (fun (q : Int32 × Mm) => q.2) (fun (q : Mm) => q)) x) q = mm_I μ q := by
  have hi : mm_I μ q = mm_I μ q := rfl
  have hp : mm_P μ = mm_P μ := rfl
  have r_a0 : rch (mm_P μ) a0 [] a0 := rfl
  obtain ⟨v43, e43, h⟩ := bd h
  have h := Option.some.inj h
  subst h
  exact hi
theorem i_X5_append_L3 {a0 : Nat} {l1 : Int32} {s3 : Int32 × Mm} {x : ((Int32 × Mm) ⊕ (Mm))} {q : Nat} (h : f_X5_append_L3 a0 l1 s3 = some x) (c_a0 : ∀ p ∈ ([[], [0]] : List (List Nat)), ¬ rch (mm_P ((fun (q : Int32 × Mm) => q.2) s3)) a0 p q) : mm_I (sm (fun (q : Int32 × Mm) => q.2) (fun (q : Mm) => q) x) q = mm_I ((fun (q : Int32 × Mm) => q.2) s3) q := by
  have hi : mm_I ((fun (q : Int32 × Mm) => q.2) s3) q = mm_I ((fun (q : Int32 × Mm) => q.2) s3) q := rfl
  have hp : mm_P ((fun (q : Int32 × Mm) => q.2) s3) = mm_P ((fun (q : Int32 × Mm) => q.2) s3) := rfl
  have r_a0 : rch (mm_P ((fun (q : Int32 × Mm) => q.2) s3)) a0 [] a0 := rfl
  rcases ite_e h with ⟨_, h⟩ | ⟨_, h⟩
  · have h := Option.some.inj h
    subst h
    exact hi
  · obtain ⟨x8, e8, h⟩ := bd h
    rcases ite_e h with ⟨_, h⟩ | ⟨_, h⟩
    · exact (i_X5_append_J43 h ).trans hi
    · obtain ⟨x18, e18, h⟩ := bd h
      have r_x18 := rch_f r_a0 e18 hp
      obtain ⟨x22, e22, h⟩ := bd h
      obtain ⟨μ32, e32, h⟩ := bd h
      have hi := (ki_paI e32 (rch_ne c_a0 (by decide) r_x18)).trans hi
      have hp := (kp_paI e32).trans hp
      obtain ⟨x35, e35, h⟩ := bd h
      obtain ⟨μ40, e40, h⟩ := bd h
      have hi := (ki_pfI e40 (rch_ne c_a0 (by decide) r_a0)).trans hi
      have hp := (kp_pfI e40).trans hp
      exact (i_X5_append_J43 h ).trans hi
theorem i_X5_append_W3 {a0 : Nat} {l1 : Int32} {s3 : Int32 × Mm} {b : Mm} {q : Nat} (h : whl (f_X5_append_L3 a0 l1) s3 = some b) (c_a0 : ∀ p ∈ ([[], [0]] : List (List Nat)), ¬ rch (mm_P ((fun (q : Int32 × Mm) => q.2) s3)) a0 p q) : mm_I ((fun (q : Mm) => q) b) q = mm_I ((fun (q : Int32 × Mm) => q.2) s3) q := by
  have key := whl_inv (P := fun s' => mm_I ((fun (q : Int32 × Mm) => q.2) s') q = mm_I ((fun (q : Int32 × Mm) => q.2) s3) q ∧ mm_P ((fun (q : Int32 × Mm) => q.2) s') = mm_P ((fun (q : Int32 × Mm) => q.2) s3)) (Q := fun b' => mm_I ((fun (q : Mm) => q) b') q = mm_I ((fun (q : Int32 × Mm) => q.2) s3) q) (fun s' x hs1 hx => ?_) ⟨rfl, rfl⟩ h
  · exact key
  · obtain ⟨h1, hP⟩ := hs1
    have k1 := (i_X5_append_L3 hx (fun p hp hr => c_a0 p hp (by rw [← hP]; exact hr))).trans h1
    have k2 := (p_X5_append_L3 hx).trans hP
    cases x with
    | inl z => exact ⟨k1, k2⟩
    | inr z => exact k1
theorem i_X5_append {a0 : Nat} {l1 : Int32} {μ : Mm} {x : Mm} {q : Nat} (h : f_X5_append a0 l1 μ = some x) (c_a0 : ∀ p ∈ ([[], [0]] : List (List Nat)), ¬ rch (mm_P μ) a0 p q) : mm_I ((fun (q : Mm) => q) x) q = mm_I μ q := by
  have hi : mm_I μ q = mm_I μ q := rfl
  have hp : mm_P μ = mm_P μ := rfl
  have r_a0 : rch (mm_P μ) a0 [] a0 := rfl
  obtain ⟨_, h⟩ := ite_p h
  obtain ⟨b3, w3, h⟩ := bd h
  have hi := (i_X5_append_W3 w3 (rch_sub c_a0 r_a0 (by decide) hp)).trans hi
  have hp := (p_X5_append_W3 w3).trans hp
  have h := Option.some.inj h
  subst h
  exact hi
theorem i_X10_feed {a0 : Nat} {l1 : Int32} {l2 : Int32} {l3 : Int32} {l4 : Int32} {l5 : Int32} {μ : Mm} {x : (Int32 × Mm)} {q : Nat} (h : f_X10_feed a0 l1 l2 l3 l4 l5 μ = some x) (c_a0 : ∀ p ∈ ([[0], [0, 0]] : List (List Nat)), ¬ rch (mm_P μ) a0 p q) : mm_I ((fun (q : (Int32 × Mm)) => q.2) x) q = mm_I μ q := by
  have hi : mm_I μ q = mm_I μ q := rfl
  have hp : mm_P μ = mm_P μ := rfl
  have r_a0 : rch (mm_P μ) a0 [] a0 := rfl
  obtain ⟨_, h⟩ := ite_p h
  obtain ⟨x1, e1, h⟩ := bd h
  have r_x1 := rch_f r_a0 e1 hp
  obtain ⟨x4, e4, h⟩ := bd h
  rcases ite_e h with ⟨_, h⟩ | ⟨_, h⟩
  · have h := Option.some.inj h
    subst h
    exact hi
  · obtain ⟨x14, e14, h⟩ := bd h
    have r_x14 := rch_f r_a0 e14 hp
    obtain ⟨x18, e18, h⟩ := bd h
    have hi := (i_X5_append e18 (rch_sub c_a0 r_x14 (by decide) hp)).trans hi
    have hp := (p_X5_append e18).trans hp
    obtain ⟨x22, e22, h⟩ := bd h
    have r_x22 := rch_f r_a0 e22 hp
    obtain ⟨x26, e26, h⟩ := bd h
    have hi := (i_X5_append e26 (rch_sub c_a0 r_x22 (by decide) hp)).trans hi
    have hp := (p_X5_append e26).trans hp
    obtain ⟨x30, e30, h⟩ := bd h
    have r_x30 := rch_f r_a0 e30 hp
    obtain ⟨x34, e34, h⟩ := bd h
    have hi := (i_X5_append e34 (rch_sub c_a0 r_x30 (by decide) hp)).trans hi
    have hp := (p_X5_append e34).trans hp
    obtain ⟨x38, e38, h⟩ := bd h
    have r_x38 := rch_f r_a0 e38 hp
    obtain ⟨x43, e43, h⟩ := bd h
    have hi := (i_X5_append e43 (rch_sub c_a0 r_x38 (by decide) hp)).trans hi
    have hp := (p_X5_append e43).trans hp
    obtain ⟨x47, e47, h⟩ := bd h
    have r_x47 := rch_f r_a0 e47 hp
    obtain ⟨x52, e52, h⟩ := bd h
    have hi := (i_X5_append e52 (rch_sub c_a0 r_x47 (by decide) hp)).trans hi
    have hp := (p_X5_append e52).trans hp
    obtain ⟨x56, e56, h⟩ := bd h
    have r_x56 := rch_f r_a0 e56 hp
    obtain ⟨x59, e59, h⟩ := bd h
    have h := Option.some.inj h
    subst h
    exact hi
theorem i_X3_drawn {a0 : Nat} {l1 : Int32} {μ : Mm} {x : (Int32 × Mm)} {q : Nat} (h : f_X3_drawn a0 l1 μ = some x) (c_a0 : ∀ p ∈ ([[]] : List (List Nat)), ¬ rch (mm_P μ) a0 p q) : mm_I ((fun (q : (Int32 × Mm)) => q.2) x) q = mm_I μ q := by
  have hi : mm_I μ q = mm_I μ q := rfl
  have hp : mm_P μ = mm_P μ := rfl
  have r_a0 : rch (mm_P μ) a0 [] a0 := rfl
  obtain ⟨_, h⟩ := ite_p h
  obtain ⟨x4, e4, h⟩ := bd h
  obtain ⟨μ15, e15, h⟩ := bd h
  have hi := (ki_pfI e15 (rch_ne c_a0 (by decide) r_a0)).trans hi
  have hp := (kp_pfI e15).trans hp
  rcases ite_e h with ⟨_, h⟩ | ⟨_, h⟩
  · have h := Option.some.inj h
    subst h
    exact hi
  · obtain ⟨x23, e23, h⟩ := bd h
    obtain ⟨_, h⟩ := ite_n h
    have h := Option.some.inj h
    subst h
    exact hi
theorem i_X3_pass_J152 {a0 : Nat} {l1 : Int32} {l2 : Nat} {l3 : Nat} {l4 : Int32} {l5 : Int32} {μ : Mm} {x : ((Int32 × Mm) ⊕ (Mm))} {q : Nat} (h : f_X3_pass_J152 a0 l1 l2 l3 l4 l5 μ = some x)  : mm_I ((sm (fun (q : Int32 × Mm) => q.2) (fun (q : Mm) => q)) x) q = mm_I μ q := by
  have hi : mm_I μ q = mm_I μ q := rfl
  have hp : mm_P μ = mm_P μ := rfl
  have r_a0 : rch (mm_P μ) a0 [] a0 := rfl
  have r_l2 : rch (mm_P μ) l2 [] l2 := rfl
  have r_l3 : rch (mm_P μ) l3 [] l3 := rfl
  obtain ⟨v152, e152, h⟩ := bd h
  have h := Option.some.inj h
  subst h
  exact hi
theorem i_X3_pass_J103 {a0 : Nat} {l1 : Int32} {l2 : Nat} {l3 : Nat} {l4 : Int32} {l5 : Int32} {l6 : Int32} {μ : Mm} {x : ((Int32 × Mm) ⊕ (Mm))} {q : Nat} (h : f_X3_pass_J103 a0 l1 l2 l3 l4 l5 l6 μ = some x) (c_a0 : ∀ p ∈ ([[]] : List (List Nat)), ¬ rch (mm_P μ) a0 p q) (c_l3 : ∀ p ∈ ([[3], [4]] : List (List Nat)), ¬ rch (mm_P μ) l3 p q) : mm_I ((sm (fun (q : Int32 × Mm) => q.2) (fun (q : Mm) => q)) x) q = mm_I μ q := by
  have hi : mm_I μ q = mm_I μ q := rfl
  have hp : mm_P μ = mm_P μ := rfl
  have r_a0 : rch (mm_P μ) a0 [] a0 := rfl
  have r_l2 : rch (mm_P μ) l2 [] l2 := rfl
  have r_l3 : rch (mm_P μ) l3 [] l3 := rfl
  obtain ⟨x105, e105, h⟩ := bd h
  obtain ⟨μ110, e110, h⟩ := bd h
  have hi := (ki_pfI e110 (rch_ne c_a0 (by decide) r_a0)).trans hi
  have hp := (kp_pfI e110).trans hp
  rcases ite_e h with ⟨_, h⟩ | ⟨_, h⟩
  · obtain ⟨x124, e124, h⟩ := bd h
    have r_x124 := rch_f r_l2 e124 hp
    obtain ⟨x129, e129, h⟩ := bd h
    have r_x129 := rch_f r_l2 e129 hp
    obtain ⟨x132, e132, h⟩ := bd h
    obtain ⟨x135, e135, h⟩ := bd h
    have hi := (i_X3_drawn e135 (rch_sub c_a0 r_a0 (by decide) hp)).trans hi
    have hp := (p_X3_drawn e135).trans hp
    obtain ⟨x138, e138, h⟩ := bd h
    obtain ⟨μ141, e141, h⟩ := bd h
    have hi := (ki_pfI e141 (rch_ne c_a0 (by decide) r_a0)).trans hi
    have hp := (kp_pfI e141).trans hp
    obtain ⟨x146, e146, h⟩ := bd h
    obtain ⟨x149, e149, h⟩ := bd h
    have hi := (i_X4_setTurning e149 (rch_sub c_l3 r_l3 (by decide) hp)).trans hi
    have hp := (p_X4_setTurning e149).trans hp
    exact (i_X3_pass_J152 h ).trans hi
  · exact (i_X3_pass_J152 h ).trans hi
theorem i_X3_pass_L39 {a0 : Nat} {l1 : Int32} {l2 : Nat} {l3 : Nat} {l4 : Int32} {l5 : Int32} {l6 : Int32} {s39 : Int32 × Mm} {x : ((Int32 × Mm) ⊕ (Mm))} {q : Nat} (h : f_X3_pass_L39 a0 l1 l2 l3 l4 l5 l6 s39 = some x) (c_a0 : ∀ p ∈ ([[0]] : List (List Nat)), ¬ rch (mm_P ((fun (q : Int32 × Mm) => q.2) s39)) a0 p q) (c_l3 : ∀ p ∈ ([[]] : List (List Nat)), ¬ rch (mm_P ((fun (q : Int32 × Mm) => q.2) s39)) l3 p q) : mm_I (sm (fun (q : Int32 × Mm) => q.2) (fun (q : Mm) => q) x) q = mm_I ((fun (q : Int32 × Mm) => q.2) s39) q := by
  have hi : mm_I ((fun (q : Int32 × Mm) => q.2) s39) q = mm_I ((fun (q : Int32 × Mm) => q.2) s39) q := rfl
  have hp : mm_P ((fun (q : Int32 × Mm) => q.2) s39) = mm_P ((fun (q : Int32 × Mm) => q.2) s39) := rfl
  have r_a0 : rch (mm_P ((fun (q : Int32 × Mm) => q.2) s39)) a0 [] a0 := rfl
  have r_l2 : rch (mm_P ((fun (q : Int32 × Mm) => q.2) s39)) l2 [] l2 := rfl
  have r_l3 : rch (mm_P ((fun (q : Int32 × Mm) => q.2) s39)) l3 [] l3 := rfl
  obtain ⟨x42, e42, h⟩ := bd h
  have r_x42 := rch_f r_l2 e42 hp
  obtain ⟨x45, e45, h⟩ := bd h
  rcases ite_e h with ⟨_, h⟩ | ⟨_, h⟩
  · have h := Option.some.inj h
    subst h
    exact hi
  · rcases ite_e h with ⟨_, h⟩ | ⟨_, h⟩
    · have h := Option.some.inj h
      subst h
      exact hi
    · obtain ⟨x64, e64, h⟩ := bd h
      have hi := (i_X4_setFact e64 (rch_sub c_l3 r_l3 (by decide) hp)).trans hi
      have hp := (p_X4_setFact e64).trans hp
      obtain ⟨x69, e69, h⟩ := bd h
      have r_x69 := rch_f r_a0 e69 hp
      obtain ⟨x74, e74, h⟩ := bd h
      obtain ⟨x77, e77, h⟩ := bd h
      obtain ⟨x83, e83, h⟩ := bd h
      have r_x83 := rch_f r_a0 e83 hp
      obtain ⟨x93, e93, h⟩ := bd h
      obtain ⟨μ96, e96, h⟩ := bd h
      have hi := (ki_paI e96 (rch_ne c_a0 (by decide) r_x83)).trans hi
      have hp := (kp_paI e96).trans hp
      obtain ⟨v97, e97, h⟩ := bd h
      have h := Option.some.inj h
      subst h
      exact hi
theorem i_X3_pass_W39 {a0 : Nat} {l1 : Int32} {l2 : Nat} {l3 : Nat} {l4 : Int32} {l5 : Int32} {l6 : Int32} {s39 : Int32 × Mm} {b : Mm} {q : Nat} (h : whl (f_X3_pass_L39 a0 l1 l2 l3 l4 l5 l6) s39 = some b) (c_a0 : ∀ p ∈ ([[0]] : List (List Nat)), ¬ rch (mm_P ((fun (q : Int32 × Mm) => q.2) s39)) a0 p q) (c_l3 : ∀ p ∈ ([[]] : List (List Nat)), ¬ rch (mm_P ((fun (q : Int32 × Mm) => q.2) s39)) l3 p q) : mm_I ((fun (q : Mm) => q) b) q = mm_I ((fun (q : Int32 × Mm) => q.2) s39) q := by
  have key := whl_inv (P := fun s' => mm_I ((fun (q : Int32 × Mm) => q.2) s') q = mm_I ((fun (q : Int32 × Mm) => q.2) s39) q ∧ mm_P ((fun (q : Int32 × Mm) => q.2) s') = mm_P ((fun (q : Int32 × Mm) => q.2) s39)) (Q := fun b' => mm_I ((fun (q : Mm) => q) b') q = mm_I ((fun (q : Int32 × Mm) => q.2) s39) q) (fun s' x hs1 hx => ?_) ⟨rfl, rfl⟩ h
  · exact key
  · obtain ⟨h1, hP⟩ := hs1
    have k1 := (i_X3_pass_L39 hx (fun p hp hr => c_a0 p hp (by rw [← hP]; exact hr)) (fun p hp hr => c_l3 p hp (by rw [← hP]; exact hr))).trans h1
    have k2 := (p_X3_pass_L39 hx).trans hP
    cases x with
    | inl z => exact ⟨k1, k2⟩
    | inr z => exact k1
theorem i_X3_pass_L21 {a0 : Nat} {l1 : Int32} {l2 : Nat} {l3 : Nat} {l4 : Int32} {s21 : Int32 × Mm} {x : ((Int32 × Mm) ⊕ (Mm))} {q : Nat} (h : f_X3_pass_L21 a0 l1 l2 l3 l4 s21 = some x) (c_a0 : ∀ p ∈ ([[], [0]] : List (List Nat)), ¬ rch (mm_P ((fun (q : Int32 × Mm) => q.2) s21)) a0 p q) (c_l3 : ∀ p ∈ ([[], [3], [4]] : List (List Nat)), ¬ rch (mm_P ((fun (q : Int32 × Mm) => q.2) s21)) l3 p q) : mm_I (sm (fun (q : Int32 × Mm) => q.2) (fun (q : Mm) => q) x) q = mm_I ((fun (q : Int32 × Mm) => q.2) s21) q := by
  have hi : mm_I ((fun (q : Int32 × Mm) => q.2) s21) q = mm_I ((fun (q : Int32 × Mm) => q.2) s21) q := rfl
  have hp : mm_P ((fun (q : Int32 × Mm) => q.2) s21) = mm_P ((fun (q : Int32 × Mm) => q.2) s21) := rfl
  have r_a0 : rch (mm_P ((fun (q : Int32 × Mm) => q.2) s21)) a0 [] a0 := rfl
  have r_l2 : rch (mm_P ((fun (q : Int32 × Mm) => q.2) s21)) l2 [] l2 := rfl
  have r_l3 : rch (mm_P ((fun (q : Int32 × Mm) => q.2) s21)) l3 [] l3 := rfl
  rcases ite_e h with ⟨_, h⟩ | ⟨_, h⟩
  · have h := Option.some.inj h
    subst h
    exact hi
  · obtain ⟨x28, e28, h⟩ := bd h
    obtain ⟨_, h⟩ := ite_n h
    obtain ⟨v34, e34, h⟩ := bd h
    obtain ⟨b39, w39, h⟩ := bd h
    have hi := (i_X3_pass_W39 w39 (rch_sub c_a0 r_a0 (by decide) hp) (rch_sub c_l3 r_l3 (by decide) hp)).trans hi
    have hp := (p_X3_pass_W39 w39).trans hp
    exact (i_X3_pass_J103 h (rch_sub c_a0 r_a0 (by decide) hp) (rch_sub c_l3 r_l3 (by decide) hp)).trans hi
theorem i_X3_pass_W21 {a0 : Nat} {l1 : Int32} {l2 : Nat} {l3 : Nat} {l4 : Int32} {s21 : Int32 × Mm} {b : Mm} {q : Nat} (h : whl (f_X3_pass_L21 a0 l1 l2 l3 l4) s21 = some b) (c_a0 : ∀ p ∈ ([[], [0]] : List (List Nat)), ¬ rch (mm_P ((fun (q : Int32 × Mm) => q.2) s21)) a0 p q) (c_l3 : ∀ p ∈ ([[], [3], [4]] : List (List Nat)), ¬ rch (mm_P ((fun (q : Int32 × Mm) => q.2) s21)) l3 p q) : mm_I ((fun (q : Mm) => q) b) q = mm_I ((fun (q : Int32 × Mm) => q.2) s21) q := by
  have key := whl_inv (P := fun s' => mm_I ((fun (q : Int32 × Mm) => q.2) s') q = mm_I ((fun (q : Int32 × Mm) => q.2) s21) q ∧ mm_P ((fun (q : Int32 × Mm) => q.2) s') = mm_P ((fun (q : Int32 × Mm) => q.2) s21)) (Q := fun b' => mm_I ((fun (q : Mm) => q) b') q = mm_I ((fun (q : Int32 × Mm) => q.2) s21) q) (fun s' x hs1 hx => ?_) ⟨rfl, rfl⟩ h
  · exact key
  · obtain ⟨h1, hP⟩ := hs1
    have k1 := (i_X3_pass_L21 hx (fun p hp hr => c_a0 p hp (by rw [← hP]; exact hr)) (fun p hp hr => c_l3 p hp (by rw [← hP]; exact hr))).trans h1
    have k2 := (p_X3_pass_L21 hx).trans hP
    cases x with
    | inl z => exact ⟨k1, k2⟩
    | inr z => exact k1
theorem i_X3_pass {a0 : Nat} {l1 : Int32} {l2 : Nat} {l3 : Nat} {μ : Mm} {x : Mm} {q : Nat} (h : f_X3_pass a0 l1 l2 l3 μ = some x) (c_a0 : ∀ p ∈ ([[], [0]] : List (List Nat)), ¬ rch (mm_P μ) a0 p q) (c_l3 : ∀ p ∈ ([[], [3], [4]] : List (List Nat)), ¬ rch (mm_P μ) l3 p q) : mm_I ((fun (q : Mm) => q) x) q = mm_I μ q := by
  have hi : mm_I μ q = mm_I μ q := rfl
  have hp : mm_P μ = mm_P μ := rfl
  have r_a0 : rch (mm_P μ) a0 [] a0 := rfl
  have r_l2 : rch (mm_P μ) l2 [] l2 := rfl
  have r_l3 : rch (mm_P μ) l3 [] l3 := rfl
  obtain ⟨_, h⟩ := ite_p h
  obtain ⟨x2, e2, h⟩ := bd h
  obtain ⟨v8, e8, h⟩ := bd h
  obtain ⟨x12, e12, h⟩ := bd h
  obtain ⟨x15, e15, h⟩ := bd h
  have hi := (i_X4_setTurning e15 (rch_sub c_l3 r_l3 (by decide) hp)).trans hi
  have hp := (p_X4_setTurning e15).trans hp
  obtain ⟨b21, w21, h⟩ := bd h
  have hi := (i_X3_pass_W21 w21 (rch_sub c_a0 r_a0 (by decide) hp) (rch_sub c_l3 r_l3 (by decide) hp)).trans hi
  have hp := (p_X3_pass_W21 w21).trans hp
  have h := Option.some.inj h
  subst h
  exact hi
theorem i_X10_go {a0 : Nat} {l1 : Int32} {μ : Mm} {x : (Int32 × Mm)} {q : Nat} (h : f_X10_go a0 l1 μ = some x) (c_a0 : ∀ p ∈ ([[3], [3, 3], [3, 4], [6], [6, 0]] : List (List Nat)), ¬ rch (mm_P μ) a0 p q) : mm_I ((fun (q : (Int32 × Mm)) => q.2) x) q = mm_I μ q := by
  have hi : mm_I μ q = mm_I μ q := rfl
  have hp : mm_P μ = mm_P μ := rfl
  have r_a0 : rch (mm_P μ) a0 [] a0 := rfl
  obtain ⟨_, h⟩ := ite_p h
  rcases ite_e h with ⟨_, h⟩ | ⟨_, h⟩
  · have h := Option.some.inj h
    subst h
    exact hi
  · rcases ite_e h with ⟨_, h⟩ | ⟨_, h⟩
    · obtain ⟨x15, e15, h⟩ := bd h
      have r_x15 := rch_f r_a0 e15 hp
      obtain ⟨x18, e18, h⟩ := bd h
      rcases ite_e h with ⟨_, h⟩ | ⟨_, h⟩
      · have h := Option.some.inj h
        subst h
        exact hi
      · obtain ⟨x28, e28, h⟩ := bd h
        have r_x28 := rch_f r_a0 e28 hp
        obtain ⟨x33, e33, h⟩ := bd h
        have r_x33 := rch_f r_a0 e33 hp
        obtain ⟨x37, e37, h⟩ := bd h
        have r_x37 := rch_f r_a0 e37 hp
        obtain ⟨x40, e40, h⟩ := bd h
        have hi := (i_X3_pass e40 (rch_sub c_a0 r_x28 (by decide) hp) (rch_sub c_a0 r_x37 (by decide) hp)).trans hi
        have hp := (p_X3_pass e40).trans hp
        obtain ⟨x44, e44, h⟩ := bd h
        have r_x44 := rch_f r_a0 e44 hp
        obtain ⟨x47, e47, h⟩ := bd h
        have h := Option.some.inj h
        subst h
        exact hi
    · have h := Option.some.inj h
      subst h
      exact hi
theorem i_X0_clear {a0 : Nat} {μ : Mm} {x : Mm} {q : Nat} (h : f_X0_clear a0 μ = some x) (c_a0 : ∀ p ∈ ([[]] : List (List Nat)), ¬ rch (mm_P μ) a0 p q) : mm_I ((fun (q : Mm) => q) x) q = mm_I μ q := by
  have hi : mm_I μ q = mm_I μ q := rfl
  have hp : mm_P μ = mm_P μ := rfl
  have r_a0 : rch (mm_P μ) a0 [] a0 := rfl
  obtain ⟨_, h⟩ := ite_p h
  obtain ⟨μ2, e2, h⟩ := bd h
  have hi := (ki_pfI e2 (rch_ne c_a0 (by decide) r_a0)).trans hi
  have hp := (kp_pfI e2).trans hp
  obtain ⟨μ7, e7, h⟩ := bd h
  have hi := (ki_pfI e7 (rch_ne c_a0 (by decide) r_a0)).trans hi
  have hp := (kp_pfI e7).trans hp
  obtain ⟨μ12, e12, h⟩ := bd h
  have hi := (ki_pfI e12 (rch_ne c_a0 (by decide) r_a0)).trans hi
  have hp := (kp_pfI e12).trans hp
  have h := Option.some.inj h
  subst h
  exact hi
theorem i_X7_clear {a0 : Nat} {μ : Mm} {x : Mm} {q : Nat} (h : f_X7_clear a0 μ = some x) (c_a0 : ∀ p ∈ ([[], [1], [2], [3], [4], [5], [6], [7]] : List (List Nat)), ¬ rch (mm_P μ) a0 p q) : mm_I ((fun (q : Mm) => q) x) q = mm_I μ q := by
  have hi : mm_I μ q = mm_I μ q := rfl
  have hp : mm_P μ = mm_P μ := rfl
  have r_a0 : rch (mm_P μ) a0 [] a0 := rfl
  obtain ⟨_, h⟩ := ite_p h
  obtain ⟨μ2, e2, h⟩ := bd h
  have hi := (ki_pfI e2 (rch_ne c_a0 (by decide) r_a0)).trans hi
  have hp := (kp_pfI e2).trans hp
  obtain ⟨μ7, e7, h⟩ := bd h
  have hi := (ki_pfI e7 (rch_ne c_a0 (by decide) r_a0)).trans hi
  have hp := (kp_pfI e7).trans hp
  obtain ⟨μ12, e12, h⟩ := bd h
  have hi := (ki_pfI e12 (rch_ne c_a0 (by decide) r_a0)).trans hi
  have hp := (kp_pfI e12).trans hp
  obtain ⟨μ17, e17, h⟩ := bd h
  have hi := (ki_pfI e17 (rch_ne c_a0 (by decide) r_a0)).trans hi
  have hp := (kp_pfI e17).trans hp
  obtain ⟨μ22, e22, h⟩ := bd h
  have hi := (ki_pfI e22 (rch_ne c_a0 (by decide) r_a0)).trans hi
  have hp := (kp_pfI e22).trans hp
  obtain ⟨μ27, e27, h⟩ := bd h
  have hi := (ki_pfI e27 (rch_ne c_a0 (by decide) r_a0)).trans hi
  have hp := (kp_pfI e27).trans hp
  obtain ⟨μ33, e33, h⟩ := bd h
  have hi := (ki_pfI e33 (rch_ne c_a0 (by decide) r_a0)).trans hi
  have hp := (kp_pfI e33).trans hp
  obtain ⟨μ38, e38, h⟩ := bd h
  have hi := (ki_pfI e38 (rch_ne c_a0 (by decide) r_a0)).trans hi
  have hp := (kp_pfI e38).trans hp
  obtain ⟨x42, e42, h⟩ := bd h
  have r_x42 := rch_f r_a0 e42 hp
  obtain ⟨μ46, e46, h⟩ := bd h
  have hi := (ki_pfI e46 (rch_ne c_a0 (by decide) r_x42)).trans hi
  have hp := (kp_pfI e46).trans hp
  obtain ⟨x50, e50, h⟩ := bd h
  have r_x50 := rch_f r_a0 e50 hp
  obtain ⟨μ54, e54, h⟩ := bd h
  have hi := (ki_pfI e54 (rch_ne c_a0 (by decide) r_x50)).trans hi
  have hp := (kp_pfI e54).trans hp
  obtain ⟨x58, e58, h⟩ := bd h
  have r_x58 := rch_f r_a0 e58 hp
  obtain ⟨μ62, e62, h⟩ := bd h
  have hi := (ki_pfI e62 (rch_ne c_a0 (by decide) r_x58)).trans hi
  have hp := (kp_pfI e62).trans hp
  obtain ⟨x66, e66, h⟩ := bd h
  have r_x66 := rch_f r_a0 e66 hp
  obtain ⟨μ70, e70, h⟩ := bd h
  have hi := (ki_pfI e70 (rch_ne c_a0 (by decide) r_x66)).trans hi
  have hp := (kp_pfI e70).trans hp
  obtain ⟨x74, e74, h⟩ := bd h
  have r_x74 := rch_f r_a0 e74 hp
  obtain ⟨μ78, e78, h⟩ := bd h
  have hi := (ki_pfI e78 (rch_ne c_a0 (by decide) r_x74)).trans hi
  have hp := (kp_pfI e78).trans hp
  obtain ⟨x82, e82, h⟩ := bd h
  have r_x82 := rch_f r_a0 e82 hp
  obtain ⟨x86, e86, h⟩ := bd h
  have hi := (i_J7_fill_53178 e86 (rch_sub c_a0 r_x82 (by decide) hp)).trans hi
  have hp := (p_J7_fill_53178 e86).trans hp
  obtain ⟨x90, e90, h⟩ := bd h
  have r_x90 := rch_f r_a0 e90 hp
  obtain ⟨x94, e94, h⟩ := bd h
  have hi := (i_J7_fill_53178 e94 (rch_sub c_a0 r_x90 (by decide) hp)).trans hi
  have hp := (p_J7_fill_53178 e94).trans hp
  have h := Option.some.inj h
  subst h
  exact hi
theorem i_X9_prepare_J139 {a0 : Nat} {l2 : Int32} {l3 : Int32} {k0 : Nat} {k1 : Int32} {k2 : Int32} {μ : Mm} {x : ((Int32 × Mm) ⊕ (Mm))} {q : Nat} (h : f_X9_prepare_J139 a0 l2 l3 k0 k1 k2 μ = some x) (c_k0 : ∀ p ∈ ([[]] : List (List Nat)), ¬ rch (mm_P μ) k0 p q) : mm_I ((sm (fun (q : Int32 × Mm) => q.2) (fun (q : Mm) => q)) x) q = mm_I μ q := by
  have hi : mm_I μ q = mm_I μ q := rfl
  have hp : mm_P μ = mm_P μ := rfl
  have r_a0 : rch (mm_P μ) a0 [] a0 := rfl
  have r_k0 : rch (mm_P μ) k0 [] k0 := rfl
  obtain ⟨μ139, e139, h⟩ := bd h
  have hi := (ki_paI e139 (rch_ne c_k0 (by decide) r_k0)).trans hi
  have hp := (kp_paI e139).trans hp
  obtain ⟨v140, e140, h⟩ := bd h
  have h := Option.some.inj h
  subst h
  exact hi
theorem i_X9_prepare_L113 {a0 : Nat} {l2 : Int32} {s113 : Int32 × Mm} {x : ((Int32 × Mm) ⊕ (Mm))} {q : Nat} (h : f_X9_prepare_L113 a0 l2 s113 = some x) (c_a0 : ∀ p ∈ ([[2]] : List (List Nat)), ¬ rch (mm_P ((fun (q : Int32 × Mm) => q.2) s113)) a0 p q) : mm_I (sm (fun (q : Int32 × Mm) => q.2) (fun (q : Mm) => q) x) q = mm_I ((fun (q : Int32 × Mm) => q.2) s113) q := by
  have hi : mm_I ((fun (q : Int32 × Mm) => q.2) s113) q = mm_I ((fun (q : Int32 × Mm) => q.2) s113) q := rfl
  have hp : mm_P ((fun (q : Int32 × Mm) => q.2) s113) = mm_P ((fun (q : Int32 × Mm) => q.2) s113) := rfl
  have r_a0 : rch (mm_P ((fun (q : Int32 × Mm) => q.2) s113)) a0 [] a0 := rfl
  rcases ite_e h with ⟨_, h⟩ | ⟨_, h⟩
  · have h := Option.some.inj h
    subst h
    exact hi
  · obtain ⟨x118, e118, h⟩ := bd h
    have r_x118 := rch_f r_a0 e118 hp
    rcases ite_e h with ⟨_, h⟩ | ⟨_, h⟩
    · obtain ⟨x136, e136, h⟩ := bd h
      exact (i_X9_prepare_J139 h (rch_sub c_a0 r_x118 (by decide) hp)).trans hi
    · exact (i_X9_prepare_J139 h (rch_sub c_a0 r_x118 (by decide) hp)).trans hi
theorem i_X9_prepare_W113 {a0 : Nat} {l2 : Int32} {s113 : Int32 × Mm} {b : Mm} {q : Nat} (h : whl (f_X9_prepare_L113 a0 l2) s113 = some b) (c_a0 : ∀ p ∈ ([[2]] : List (List Nat)), ¬ rch (mm_P ((fun (q : Int32 × Mm) => q.2) s113)) a0 p q) : mm_I ((fun (q : Mm) => q) b) q = mm_I ((fun (q : Int32 × Mm) => q.2) s113) q := by
  have key := whl_inv (P := fun s' => mm_I ((fun (q : Int32 × Mm) => q.2) s') q = mm_I ((fun (q : Int32 × Mm) => q.2) s113) q ∧ mm_P ((fun (q : Int32 × Mm) => q.2) s') = mm_P ((fun (q : Int32 × Mm) => q.2) s113)) (Q := fun b' => mm_I ((fun (q : Mm) => q) b') q = mm_I ((fun (q : Int32 × Mm) => q.2) s113) q) (fun s' x hs1 hx => ?_) ⟨rfl, rfl⟩ h
  · exact key
  · obtain ⟨h1, hP⟩ := hs1
    have k1 := (i_X9_prepare_L113 hx (fun p hp hr => c_a0 p hp (by rw [← hP]; exact hr))).trans h1
    have k2 := (p_X9_prepare_L113 hx).trans hP
    cases x with
    | inl z => exact ⟨k1, k2⟩
    | inr z => exact k1
theorem i_X9_prepare_J105 {a0 : Nat} {l2 : Int32} {μ : Mm} {x : Mm} {q : Nat} (h : f_X9_prepare_J105 a0 l2 μ = some x) (c_a0 : ∀ p ∈ ([[2]] : List (List Nat)), ¬ rch (mm_P μ) a0 p q) : mm_I ((fun (q : Mm) => q) x) q = mm_I μ q := by
  have hi : mm_I μ q = mm_I μ q := rfl
  have hp : mm_P μ = mm_P μ := rfl
  have r_a0 : rch (mm_P μ) a0 [] a0 := rfl
  obtain ⟨x106, e106, h⟩ := bd h
  have r_x106 := rch_f r_a0 e106 hp
  obtain ⟨x109, e109, h⟩ := bd h
  obtain ⟨v112, e112, h⟩ := bd h
  obtain ⟨b113, w113, h⟩ := bd h
  have hi := (i_X9_prepare_W113 w113 (rch_sub c_a0 r_a0 (by decide) hp)).trans hi
  have hp := (p_X9_prepare_W113 w113).trans hp
  have h := Option.some.inj h
  subst h
  exact hi
theorem i_X9_prepare_J99 {a0 : Nat} {l1 : Nat} {l2 : Int32} {l3 : Int32} {μ : Mm} {x : ((Int32 × Mm) ⊕ (Mm))} {q : Nat} (h : f_X9_prepare_J99 a0 l1 l2 l3 μ = some x)  : mm_I ((sm (fun (q : Int32 × Mm) => q.2) (fun (q : Mm) => q)) x) q = mm_I μ q := by
  have hi : mm_I μ q = mm_I μ q := rfl
  have hp : mm_P μ = mm_P μ := rfl
  have r_a0 : rch (mm_P μ) a0 [] a0 := rfl
  have r_l1 : rch (mm_P μ) l1 [] l1 := rfl
  obtain ⟨v99, e99, h⟩ := bd h
  have h := Option.some.inj h
  subst h
  exact hi
theorem i_X9_prepare_J98 {a0 : Nat} {l1 : Nat} {l2 : Int32} {l3 : Int32} {k0 : Nat} {k1 : Int32} {k2 : Int32} {μ : Mm} {x : ((Int32 × Mm) ⊕ (Mm))} {q : Nat} (h : f_X9_prepare_J98 a0 l1 l2 l3 k0 k1 k2 μ = some x) (c_k0 : ∀ p ∈ ([[]] : List (List Nat)), ¬ rch (mm_P μ) k0 p q) : mm_I ((sm (fun (q : Int32 × Mm) => q.2) (fun (q : Mm) => q)) x) q = mm_I μ q := by
  have hi : mm_I μ q = mm_I μ q := rfl
  have hp : mm_P μ = mm_P μ := rfl
  have r_a0 : rch (mm_P μ) a0 [] a0 := rfl
  have r_l1 : rch (mm_P μ) l1 [] l1 := rfl
  have r_k0 : rch (mm_P μ) k0 [] k0 := rfl
  obtain ⟨μ98, e98, h⟩ := bd h
  have hi := (ki_paI e98 (rch_ne c_k0 (by decide) r_k0)).trans hi
  have hp := (kp_paI e98).trans hp
  exact (i_X9_prepare_J99 h ).trans hi
theorem i_X9_prepare_L23 {a0 : Nat} {l1 : Nat} {l2 : Int32} {s23 : Int32 × Mm} {x : ((Int32 × Mm) ⊕ (Mm))} {q : Nat} (h : f_X9_prepare_L23 a0 l1 l2 s23 = some x) (c_a0 : ∀ p ∈ ([[], [0], [1]] : List (List Nat)), ¬ rch (mm_P ((fun (q : Int32 × Mm) => q.2) s23)) a0 p q) : mm_I (sm (fun (q : Int32 × Mm) => q.2) (fun (q : Mm) => q) x) q = mm_I ((fun (q : Int32 × Mm) => q.2) s23) q := by
  have hi : mm_I ((fun (q : Int32 × Mm) => q.2) s23) q = mm_I ((fun (q : Int32 × Mm) => q.2) s23) q := rfl
  have hp : mm_P ((fun (q : Int32 × Mm) => q.2) s23) = mm_P ((fun (q : Int32 × Mm) => q.2) s23) := rfl
  have r_a0 : rch (mm_P ((fun (q : Int32 × Mm) => q.2) s23)) a0 [] a0 := rfl
  have r_l1 : rch (mm_P ((fun (q : Int32 × Mm) => q.2) s23)) l1 [] l1 := rfl
  obtain ⟨x25, e25, h⟩ := bd h
  rcases ite_e h with ⟨_, h⟩ | ⟨_, h⟩
  · have h := Option.some.inj h
    subst h
    exact hi
  · obtain ⟨x33, e33, h⟩ := bd h
    rcases ite_e h with ⟨_, h⟩ | ⟨_, h⟩
    · obtain ⟨x40, e40, h⟩ := bd h
      have r_x40 := rch_f r_a0 e40 hp
      obtain ⟨x44, e44, h⟩ := bd h
      obtain ⟨μ48, e48, h⟩ := bd h
      have hi := (ki_paI e48 (rch_ne c_a0 (by decide) r_x40)).trans hi
      have hp := (kp_paI e48).trans hp
      obtain ⟨x51, e51, h⟩ := bd h
      obtain ⟨μ56, e56, h⟩ := bd h
      have hi := (ki_pfI e56 (rch_ne c_a0 (by decide) r_a0)).trans hi
      have hp := (kp_pfI e56).trans hp
      obtain ⟨x61, e61, h⟩ := bd h
      obtain ⟨x67, e67, h⟩ := bd h
      have r_x67 := rch_f r_a0 e67 hp
      rcases ite_e h with ⟨_, h⟩ | ⟨_, h⟩
      · obtain ⟨x86, e86, h⟩ := bd h
        exact (i_X9_prepare_J98 h (rch_sub c_a0 r_x67 (by decide) hp)).trans hi
      · exact (i_X9_prepare_J98 h (rch_sub c_a0 r_x67 (by decide) hp)).trans hi
    · exact (i_X9_prepare_J99 h ).trans hi
theorem i_X9_prepare_W23 {a0 : Nat} {l1 : Nat} {l2 : Int32} {s23 : Int32 × Mm} {b : Mm} {q : Nat} (h : whl (f_X9_prepare_L23 a0 l1 l2) s23 = some b) (c_a0 : ∀ p ∈ ([[], [0], [1]] : List (List Nat)), ¬ rch (mm_P ((fun (q : Int32 × Mm) => q.2) s23)) a0 p q) : mm_I ((fun (q : Mm) => q) b) q = mm_I ((fun (q : Int32 × Mm) => q.2) s23) q := by
  have key := whl_inv (P := fun s' => mm_I ((fun (q : Int32 × Mm) => q.2) s') q = mm_I ((fun (q : Int32 × Mm) => q.2) s23) q ∧ mm_P ((fun (q : Int32 × Mm) => q.2) s') = mm_P ((fun (q : Int32 × Mm) => q.2) s23)) (Q := fun b' => mm_I ((fun (q : Mm) => q) b') q = mm_I ((fun (q : Int32 × Mm) => q.2) s23) q) (fun s' x hs1 hx => ?_) ⟨rfl, rfl⟩ h
  · exact key
  · obtain ⟨h1, hP⟩ := hs1
    have k1 := (i_X9_prepare_L23 hx (fun p hp hr => c_a0 p hp (by rw [← hP]; exact hr))).trans h1
    have k2 := (p_X9_prepare_L23 hx).trans hP
    cases x with
    | inl z => exact ⟨k1, k2⟩
    | inr z => exact k1
theorem i_X9_prepare {a0 : Nat} {l1 : Nat} {μ : Mm} {x : Mm} {q : Nat} (h : f_X9_prepare a0 l1 μ = some x) (c_a0 : ∀ p ∈ ([[], [0], [1], [2]] : List (List Nat)), ¬ rch (mm_P μ) a0 p q) : mm_I ((fun (q : Mm) => q) x) q = mm_I μ q := by
  have hi : mm_I μ q = mm_I μ q := rfl
  have hp : mm_P μ = mm_P μ := rfl
  have r_a0 : rch (mm_P μ) a0 [] a0 := rfl
  have r_l1 : rch (mm_P μ) l1 [] l1 := rfl
  obtain ⟨_, h⟩ := ite_p h
  obtain ⟨μ2, e2, h⟩ := bd h
  have hi := (ki_pfI e2 (rch_ne c_a0 (by decide) r_a0)).trans hi
  have hp := (kp_pfI e2).trans hp
  obtain ⟨x7, e7, h⟩ := bd h
  obtain ⟨x14, e14, h⟩ := bd h
  obtain ⟨v20, e20, h⟩ := bd h
  obtain ⟨b23, w23, h⟩ := bd h
  have hi := (i_X9_prepare_W23 w23 (rch_sub c_a0 r_a0 (by decide) hp)).trans hi
  have hp := (p_X9_prepare_W23 w23).trans hp
  exact (i_X9_prepare_J105 h (rch_sub c_a0 r_a0 (by decide) hp)).trans hi
theorem i_X10_isActRight {a0 : Nat} {l1 : Int32} {l2 : Int32} {l3 : Int32} {μ : Mm} {x : (Int32 × Mm)} {q : Nat} (h : f_X10_isActRight a0 l1 l2 l3 μ = some x) (c_a0 : ∀ p ∈ ([[3]] : List (List Nat)), ¬ rch (mm_P μ) a0 p q) : mm_I ((fun (q : (Int32 × Mm)) => q.2) x) q = mm_I μ q := by
  have hi : mm_I μ q = mm_I μ q := rfl
  have hp : mm_P μ = mm_P μ := rfl
  have r_a0 : rch (mm_P μ) a0 [] a0 := rfl
  obtain ⟨_, h⟩ := ite_p h
  obtain ⟨x1, e1, h⟩ := bd h
  have r_x1 := rch_f r_a0 e1 hp
  obtain ⟨x5, e5, h⟩ := bd h
  rcases ite_e h with ⟨_, h⟩ | ⟨_, h⟩
  · have h := Option.some.inj h
    subst h
    exact hi
  · obtain ⟨x12, e12, h⟩ := bd h
    have r_x12 := rch_f r_a0 e12 hp
    obtain ⟨x16, e16, h⟩ := bd h
    rcases ite_e h with ⟨_, h⟩ | ⟨_, h⟩
    · have h := Option.some.inj h
      subst h
      exact hi
    · obtain ⟨x25, e25, h⟩ := bd h
      have r_x25 := rch_f r_a0 e25 hp
      obtain ⟨x32, e32, h⟩ := bd h
      have hi := (i_X4_setFact e32 (rch_sub c_a0 r_x25 (by decide) hp)).trans hi
      have hp := (p_X4_setFact e32).trans hp
      obtain ⟨x36, e36, h⟩ := bd h
      have r_x36 := rch_f r_a0 e36 hp
      obtain ⟨x40, e40, h⟩ := bd h
      rcases ite_e h with ⟨_, h⟩ | ⟨_, h⟩
      · have h := Option.some.inj h
        subst h
        exact hi
      · have h := Option.some.inj h
        subst h
        exact hi
theorem i_X6_readDigits_J102  {k0 : Nat} {k1 : Int32} {μ : Mm} {x : Mm} {q : Nat} (h : f_X6_readDigits_J102 k0 k1 μ = some x) (c_k0 : ∀ p ∈ ([[]] : List (List Nat)), ¬ rch (mm_P μ) k0 p q) : mm_I ((fun (q : Mm) => q) x) q = mm_I μ q := by
  have hi : mm_I μ q = mm_I μ q := rfl
  have hp : mm_P μ = mm_P μ := rfl
  have r_k0 : rch (mm_P μ) k0 [] k0 := rfl
  obtain ⟨μ102, e102, h⟩ := bd h
  have hi := (ki_pfI e102 (rch_ne c_k0 (by decide) r_k0)).trans hi
  have hp := (kp_pfI e102).trans hp
  have h := Option.some.inj h
  subst h
  exact hi
theorem i_X6_readDigits_J75 {a0 : Nat} {μ : Mm} {x : Mm} {q : Nat} (h : f_X6_readDigits_J75 a0 μ = some x) (c_a0 : ∀ p ∈ ([[]] : List (List Nat)), ¬ rch (mm_P μ) a0 p q) : mm_I ((fun (q : Mm) => q) x) q = mm_I μ q := by
  have hi : mm_I μ q = mm_I μ q := rfl
  have hp : mm_P μ = mm_P μ := rfl
  have r_a0 : rch (mm_P μ) a0 [] a0 := rfl
  obtain ⟨x77, e77, h⟩ := bd h
  obtain ⟨x81, e81, h⟩ := bd h
  obtain ⟨μ85, e85, h⟩ := bd h
  have hi := (ki_pfI e85 (rch_ne c_a0 (by decide) r_a0)).trans hi
  have hp := (kp_pfI e85).trans hp
  obtain ⟨x90, e90, h⟩ := bd h
  rcases ite_e h with ⟨_, h⟩ | ⟨_, h⟩
  · exact (i_X6_readDigits_J102 h (rch_sub c_a0 r_a0 (by decide) hp)).trans hi
  · exact (i_X6_readDigits_J102 h (rch_sub c_a0 r_a0 (by decide) hp)).trans hi
theorem i_X6_readDigits_L5 {a0 : Nat} {s5 : Mm} {x : ((Mm) ⊕ (Mm))} {q : Nat} (h : f_X6_readDigits_L5 a0 s5 = some x) (c_a0 : ∀ p ∈ ([[]] : List (List Nat)), ¬ rch (mm_P ((fun (q : Mm) => q) s5)) a0 p q) : mm_I (sm (fun (q : Mm) => q) (fun (q : Mm) => q) x) q = mm_I ((fun (q : Mm) => q) s5) q := by
  have hi : mm_I ((fun (q : Mm) => q) s5) q = mm_I ((fun (q : Mm) => q) s5) q := rfl
  have hp : mm_P ((fun (q : Mm) => q) s5) = mm_P ((fun (q : Mm) => q) s5) := rfl
  have r_a0 : rch (mm_P ((fun (q : Mm) => q) s5)) a0 [] a0 := rfl
  obtain ⟨x6, e6, h⟩ := bd h
  obtain ⟨x10, e10, h⟩ := bd h
  have r_x10 := rch_f r_a0 e10 hp
  obtain ⟨x13, e13, h⟩ := bd h
  rcases ite_e h with ⟨_, h⟩ | ⟨_, h⟩
  · have h := Option.some.inj h
    subst h
    exact hi
  · obtain ⟨x20, e20, h⟩ := bd h
    have r_x20 := rch_f r_a0 e20 hp
    obtain ⟨x24, e24, h⟩ := bd h
    obtain ⟨x27, e27, h⟩ := bd h
    obtain ⟨x30, e30, h⟩ := bd h
    rcases ite_e h with ⟨_, h⟩ | ⟨_, h⟩
    · have h := Option.some.inj h
      subst h
      exact hi
    · obtain ⟨x38, e38, h⟩ := bd h
      obtain ⟨x45, e45, h⟩ := bd h
      have r_x45 := rch_f r_a0 e45 hp
      obtain ⟨x49, e49, h⟩ := bd h
      obtain ⟨x52, e52, h⟩ := bd h
      obtain ⟨μ59, e59, h⟩ := bd h
      have hi := (ki_pfI e59 (rch_ne c_a0 (by decide) r_a0)).trans hi
      have hp := (kp_pfI e59).trans hp
      obtain ⟨x64, e64, h⟩ := bd h
      obtain ⟨μ69, e69, h⟩ := bd h
      have hi := (ki_pfI e69 (rch_ne c_a0 (by decide) r_a0)).trans hi
      have hp := (kp_pfI e69).trans hp
      have h := Option.some.inj h
      subst h
      exact hi
theorem i_X6_readDigits_W5 {a0 : Nat} {s5 : Mm} {b : Mm} {q : Nat} (h : whl (f_X6_readDigits_L5 a0) s5 = some b) (c_a0 : ∀ p ∈ ([[]] : List (List Nat)), ¬ rch (mm_P ((fun (q : Mm) => q) s5)) a0 p q) : mm_I ((fun (q : Mm) => q) b) q = mm_I ((fun (q : Mm) => q) s5) q := by
  have key := whl_inv (P := fun s' => mm_I ((fun (q : Mm) => q) s') q = mm_I ((fun (q : Mm) => q) s5) q ∧ mm_P ((fun (q : Mm) => q) s') = mm_P ((fun (q : Mm) => q) s5)) (Q := fun b' => mm_I ((fun (q : Mm) => q) b') q = mm_I ((fun (q : Mm) => q) s5) q) (fun s' x hs1 hx => ?_) ⟨rfl, rfl⟩ h
  · exact key
  · obtain ⟨h1, hP⟩ := hs1
    have k1 := (i_X6_readDigits_L5 hx (fun p hp hr => c_a0 p hp (by rw [← hP]; exact hr))).trans h1
    have k2 := (p_X6_readDigits_L5 hx).trans hP
    cases x with
    | inl z => exact ⟨k1, k2⟩
    | inr z => exact k1
theorem i_X6_readDigits {a0 : Nat} {μ : Mm} {x : Mm} {q : Nat} (h : f_X6_readDigits a0 μ = some x) (c_a0 : ∀ p ∈ ([[]] : List (List Nat)), ¬ rch (mm_P μ) a0 p q) : mm_I ((fun (q : Mm) => q) x) q = mm_I μ q := by
  have hi : mm_I μ q = mm_I μ q := rfl
  have hp : mm_P μ = mm_P μ := rfl
  have r_a0 : rch (mm_P μ) a0 [] a0 := rfl
  obtain ⟨_, h⟩ := ite_p h
  obtain ⟨μ2, e2, h⟩ := bd h
  have hi := (ki_pfI e2 (rch_ne c_a0 (by decide) r_a0)).trans hi
  have hp := (kp_pfI e2).trans hp
  obtain ⟨b5, w5, h⟩ := bd h
  have hi := (i_X6_readDigits_W5 w5 (rch_sub c_a0 r_a0 (by decide) hp)).trans hi
  have hp := (p_X6_readDigits_W5 w5).trans hp
  exact (i_X6_readDigits_J75 h (rch_sub c_a0 r_a0 (by decide) hp)).trans hi
theorem i_X6_readWord_J105  {k0 : Nat} {k1 : Int32} {μ : Mm} {x : Mm} {q : Nat} (h : f_X6_readWord_J105 k0 k1 μ = some x) (c_k0 : ∀ p ∈ ([[]] : List (List Nat)), ¬ rch (mm_P μ) k0 p q) : mm_I ((fun (q : Mm) => q) x) q = mm_I μ q := by
  have hi : mm_I μ q = mm_I μ q := rfl
  have hp : mm_P μ = mm_P μ := rfl
  have r_k0 : rch (mm_P μ) k0 [] k0 := rfl
  obtain ⟨μ105, e105, h⟩ := bd h
  have hi := (ki_pfI e105 (rch_ne c_k0 (by decide) r_k0)).trans hi
  have hp := (kp_pfI e105).trans hp
  have h := Option.some.inj h
  subst h
  exact hi
theorem i_X6_readWord_J77 {a0 : Nat} {μ : Mm} {x : Mm} {q : Nat} (h : f_X6_readWord_J77 a0 μ = some x) (c_a0 : ∀ p ∈ ([[]] : List (List Nat)), ¬ rch (mm_P μ) a0 p q) : mm_I ((fun (q : Mm) => q) x) q = mm_I μ q := by
  have hi : mm_I μ q = mm_I μ q := rfl
  have hp : mm_P μ = mm_P μ := rfl
  have r_a0 : rch (mm_P μ) a0 [] a0 := rfl
  obtain ⟨x79, e79, h⟩ := bd h
  obtain ⟨x83, e83, h⟩ := bd h
  obtain ⟨μ87, e87, h⟩ := bd h
  have hi := (ki_pfI e87 (rch_ne c_a0 (by decide) r_a0)).trans hi
  have hp := (kp_pfI e87).trans hp
  obtain ⟨x92, e92, h⟩ := bd h
  rcases ite_e h with ⟨_, h⟩ | ⟨_, h⟩
  · exact (i_X6_readWord_J105 h (rch_sub c_a0 r_a0 (by decide) hp)).trans hi
  · exact (i_X6_readWord_J105 h (rch_sub c_a0 r_a0 (by decide) hp)).trans hi
theorem i_X6_readWord_L5 {a0 : Nat} {s5 : Mm} {x : ((Mm) ⊕ (Mm))} {q : Nat} (h : f_X6_readWord_L5 a0 s5 = some x) (c_a0 : ∀ p ∈ ([[]] : List (List Nat)), ¬ rch (mm_P ((fun (q : Mm) => q) s5)) a0 p q) : mm_I (sm (fun (q : Mm) => q) (fun (q : Mm) => q) x) q = mm_I ((fun (q : Mm) => q) s5) q := by
  have hi : mm_I ((fun (q : Mm) => q) s5) q = mm_I ((fun (q : Mm) => q) s5) q := rfl
  have hp : mm_P ((fun (q : Mm) => q) s5) = mm_P ((fun (q : Mm) => q) s5) := rfl
  have r_a0 : rch (mm_P ((fun (q : Mm) => q) s5)) a0 [] a0 := rfl
  obtain ⟨x6, e6, h⟩ := bd h
  obtain ⟨x10, e10, h⟩ := bd h
  have r_x10 := rch_f r_a0 e10 hp
  obtain ⟨x13, e13, h⟩ := bd h
  rcases ite_e h with ⟨_, h⟩ | ⟨_, h⟩
  · have h := Option.some.inj h
    subst h
    exact hi
  · obtain ⟨x20, e20, h⟩ := bd h
    have r_x20 := rch_f r_a0 e20 hp
    obtain ⟨x24, e24, h⟩ := bd h
    obtain ⟨x27, e27, h⟩ := bd h
    obtain ⟨x30, e30, h⟩ := bd h
    rcases ite_e h with ⟨_, h⟩ | ⟨_, h⟩
    · have h := Option.some.inj h
      subst h
      exact hi
    · obtain ⟨x38, e38, h⟩ := bd h
      obtain ⟨x44, e44, h⟩ := bd h
      have r_x44 := rch_f r_a0 e44 hp
      obtain ⟨x48, e48, h⟩ := bd h
      obtain ⟨x51, e51, h⟩ := bd h
      obtain ⟨μ61, e61, h⟩ := bd h
      have hi := (ki_pfL e61).trans hi
      have hp := (kp_pfL e61).trans hp
      obtain ⟨x66, e66, h⟩ := bd h
      obtain ⟨μ71, e71, h⟩ := bd h
      have hi := (ki_pfI e71 (rch_ne c_a0 (by decide) r_a0)).trans hi
      have hp := (kp_pfI e71).trans hp
      have h := Option.some.inj h
      subst h
      exact hi
theorem i_X6_readWord_W5 {a0 : Nat} {s5 : Mm} {b : Mm} {q : Nat} (h : whl (f_X6_readWord_L5 a0) s5 = some b) (c_a0 : ∀ p ∈ ([[]] : List (List Nat)), ¬ rch (mm_P ((fun (q : Mm) => q) s5)) a0 p q) : mm_I ((fun (q : Mm) => q) b) q = mm_I ((fun (q : Mm) => q) s5) q := by
  have key := whl_inv (P := fun s' => mm_I ((fun (q : Mm) => q) s') q = mm_I ((fun (q : Mm) => q) s5) q ∧ mm_P ((fun (q : Mm) => q) s') = mm_P ((fun (q : Mm) => q) s5)) (Q := fun b' => mm_I ((fun (q : Mm) => q) b') q = mm_I ((fun (q : Mm) => q) s5) q) (fun s' x hs1 hx => ?_) ⟨rfl, rfl⟩ h
  · exact key
  · obtain ⟨h1, hP⟩ := hs1
    have k1 := (i_X6_readWord_L5 hx (fun p hp hr => c_a0 p hp (by rw [← hP]; exact hr))).trans h1
    have k2 := (p_X6_readWord_L5 hx).trans hP
    cases x with
    | inl z => exact ⟨k1, k2⟩
    | inr z => exact k1
theorem i_X6_readWord {a0 : Nat} {μ : Mm} {x : Mm} {q : Nat} (h : f_X6_readWord a0 μ = some x) (c_a0 : ∀ p ∈ ([[]] : List (List Nat)), ¬ rch (mm_P μ) a0 p q) : mm_I ((fun (q : Mm) => q) x) q = mm_I μ q := by
  have hi : mm_I μ q = mm_I μ q := rfl
  have hp : mm_P μ = mm_P μ := rfl
  have r_a0 : rch (mm_P μ) a0 [] a0 := rfl
  obtain ⟨_, h⟩ := ite_p h
  obtain ⟨μ2, e2, h⟩ := bd h
  have hi := (ki_pfL e2).trans hi
  have hp := (kp_pfL e2).trans hp
  obtain ⟨b5, w5, h⟩ := bd h
  have hi := (i_X6_readWord_W5 w5 (rch_sub c_a0 r_a0 (by decide) hp)).trans hi
  have hp := (p_X6_readWord_W5 w5).trans hp
  exact (i_X6_readWord_J77 h (rch_sub c_a0 r_a0 (by decide) hp)).trans hi
theorem i_X6_skipBlanks_J46 {a0 : Nat} {μ : Mm} {x : ((Mm) ⊕ (Mm))} {q : Nat} (h : f_X6_skipBlanks_J46 a0 μ = some x) (c_a0 : ∀ p ∈ ([[]] : List (List Nat)), ¬ rch (mm_P μ) a0 p q) : mm_I ((sm (fun (q : Mm) => q) (fun (q : Mm) => q)) x) q = mm_I μ q := by
  have hi : mm_I μ q = mm_I μ q := rfl
  have hp : mm_P μ = mm_P μ := rfl
  have r_a0 : rch (mm_P μ) a0 [] a0 := rfl
  obtain ⟨x48, e48, h⟩ := bd h
  obtain ⟨μ53, e53, h⟩ := bd h
  have hi := (ki_pfI e53 (rch_ne c_a0 (by decide) r_a0)).trans hi
  have hp := (kp_pfI e53).trans hp
  have h := Option.some.inj h
  subst h
  exact hi
theorem i_X6_skipBlanks_L0 {a0 : Nat} {s0 : Mm} {x : ((Mm) ⊕ (Mm))} {q : Nat} (h : f_X6_skipBlanks_L0 a0 s0 = some x) (c_a0 : ∀ p ∈ ([[]] : List (List Nat)), ¬ rch (mm_P ((fun (q : Mm) => q) s0)) a0 p q) : mm_I (sm (fun (q : Mm) => q) (fun (q : Mm) => q) x) q = mm_I ((fun (q : Mm) => q) s0) q := by
  have hi : mm_I ((fun (q : Mm) => q) s0) q = mm_I ((fun (q : Mm) => q) s0) q := rfl
  have hp : mm_P ((fun (q : Mm) => q) s0) = mm_P ((fun (q : Mm) => q) s0) := rfl
  have r_a0 : rch (mm_P ((fun (q : Mm) => q) s0)) a0 [] a0 := rfl
  obtain ⟨x1, e1, h⟩ := bd h
  obtain ⟨x5, e5, h⟩ := bd h
  have r_x5 := rch_f r_a0 e5 hp
  obtain ⟨x8, e8, h⟩ := bd h
  rcases ite_e h with ⟨_, h⟩ | ⟨_, h⟩
  · have h := Option.some.inj h
    subst h
    exact hi
  · obtain ⟨x15, e15, h⟩ := bd h
    have r_x15 := rch_f r_a0 e15 hp
    obtain ⟨x19, e19, h⟩ := bd h
    obtain ⟨x22, e22, h⟩ := bd h
    rcases ite_e h with ⟨_, h⟩ | ⟨_, h⟩
    · exact (i_X6_skipBlanks_J46 h (rch_sub c_a0 r_a0 (by decide) hp)).trans hi
    · obtain ⟨x31, e31, h⟩ := bd h
      have r_x31 := rch_f r_a0 e31 hp
      obtain ⟨x35, e35, h⟩ := bd h
      obtain ⟨x38, e38, h⟩ := bd h
      rcases ite_e h with ⟨_, h⟩ | ⟨_, h⟩
      · exact (i_X6_skipBlanks_J46 h (rch_sub c_a0 r_a0 (by decide) hp)).trans hi
      · have h := Option.some.inj h
        subst h
        exact hi
theorem i_X6_skipBlanks_W0 {a0 : Nat} {s0 : Mm} {b : Mm} {q : Nat} (h : whl (f_X6_skipBlanks_L0 a0) s0 = some b) (c_a0 : ∀ p ∈ ([[]] : List (List Nat)), ¬ rch (mm_P ((fun (q : Mm) => q) s0)) a0 p q) : mm_I ((fun (q : Mm) => q) b) q = mm_I ((fun (q : Mm) => q) s0) q := by
  have key := whl_inv (P := fun s' => mm_I ((fun (q : Mm) => q) s') q = mm_I ((fun (q : Mm) => q) s0) q ∧ mm_P ((fun (q : Mm) => q) s') = mm_P ((fun (q : Mm) => q) s0)) (Q := fun b' => mm_I ((fun (q : Mm) => q) b') q = mm_I ((fun (q : Mm) => q) s0) q) (fun s' x hs1 hx => ?_) ⟨rfl, rfl⟩ h
  · exact key
  · obtain ⟨h1, hP⟩ := hs1
    have k1 := (i_X6_skipBlanks_L0 hx (fun p hp hr => c_a0 p hp (by rw [← hP]; exact hr))).trans h1
    have k2 := (p_X6_skipBlanks_L0 hx).trans hP
    cases x with
    | inl z => exact ⟨k1, k2⟩
    | inr z => exact k1
theorem i_X6_skipBlanks {a0 : Nat} {μ : Mm} {x : Mm} {q : Nat} (h : f_X6_skipBlanks a0 μ = some x) (c_a0 : ∀ p ∈ ([[]] : List (List Nat)), ¬ rch (mm_P μ) a0 p q) : mm_I ((fun (q : Mm) => q) x) q = mm_I μ q := by
  have hi : mm_I μ q = mm_I μ q := rfl
  have hp : mm_P μ = mm_P μ := rfl
  have r_a0 : rch (mm_P μ) a0 [] a0 := rfl
  obtain ⟨_, h⟩ := ite_p h
  obtain ⟨b0, w0, h⟩ := bd h
  have hi := (i_X6_skipBlanks_W0 w0 (rch_sub c_a0 r_a0 (by decide) hp)).trans hi
  have hp := (p_X6_skipBlanks_W0 w0).trans hp
  have h := Option.some.inj h
  subst h
  exact hi
theorem i_X6_advance_J77 {a0 : Nat} {k0 : Nat} {k1 : Int32} {μ : Mm} {x : Mm} {q : Nat} (h : f_X6_advance_J77 a0 k0 k1 μ = some x) (c_a0 : ∀ p ∈ ([[]] : List (List Nat)), ¬ rch (mm_P μ) a0 p q) (c_k0 : ∀ p ∈ ([[]] : List (List Nat)), ¬ rch (mm_P μ) k0 p q) : mm_I ((fun (q : Mm) => q) x) q = mm_I μ q := by
  have hi : mm_I μ q = mm_I μ q := rfl
  have hp : mm_P μ = mm_P μ := rfl
  have r_a0 : rch (mm_P μ) a0 [] a0 := rfl
  have r_k0 : rch (mm_P μ) k0 [] k0 := rfl
  obtain ⟨μ77, e77, h⟩ := bd h
  have hi := (ki_pfI e77 (rch_ne c_k0 (by decide) r_k0)).trans hi
  have hp := (kp_pfI e77).trans hp
  obtain ⟨x82, e82, h⟩ := bd h
  obtain ⟨μ87, e87, h⟩ := bd h
  have hi := (ki_pfI e87 (rch_ne c_a0 (by decide) r_a0)).trans hi
  have hp := (kp_pfI e87).trans hp
  have h := Option.some.inj h
  subst h
  exact hi
theorem i_X6_advance {a0 : Nat} {μ : Mm} {x : Mm} {q : Nat} (h : f_X6_advance a0 μ = some x) (c_a0 : ∀ p ∈ ([[]] : List (List Nat)), ¬ rch (mm_P μ) a0 p q) : mm_I ((fun (q : Mm) => q) x) q = mm_I μ q := by
  have hi : mm_I μ q = mm_I μ q := rfl
  have hp : mm_P μ = mm_P μ := rfl
  have r_a0 : rch (mm_P μ) a0 [] a0 := rfl
  obtain ⟨_, h⟩ := ite_p h
  obtain ⟨x1, e1, h⟩ := bd h
  have hi := (i_X6_skipBlanks e1 (rch_sub c_a0 r_a0 (by decide) hp)).trans hi
  have hp := (p_X6_skipBlanks e1).trans hp
  obtain ⟨x6, e6, h⟩ := bd h
  obtain ⟨μ9, e9, h⟩ := bd h
  have hi := (ki_pfI e9 (rch_ne c_a0 (by decide) r_a0)).trans hi
  have hp := (kp_pfI e9).trans hp
  obtain ⟨x13, e13, h⟩ := bd h
  have r_x13 := rch_f r_a0 e13 hp
  obtain ⟨x17, e17, h⟩ := bd h
  obtain ⟨x20, e20, h⟩ := bd h
  rcases ite_e h with ⟨_, h⟩ | ⟨_, h⟩
  · obtain ⟨μ31, e31, h⟩ := bd h
    have hi := (ki_pfI e31 (rch_ne c_a0 (by decide) r_a0)).trans hi
    have hp := (kp_pfI e31).trans hp
    have h := Option.some.inj h
    subst h
    exact hi
  · obtain ⟨x38, e38, h⟩ := bd h
    rcases ite_e h with ⟨_, h⟩ | ⟨_, h⟩
    · obtain ⟨x52, e52, h⟩ := bd h
      rcases ite_e h with ⟨_, h⟩ | ⟨_, h⟩
      · rcases ite_e h with ⟨_, h⟩ | ⟨_, h⟩
        · exact (i_X6_advance_J77 h (rch_sub c_a0 r_a0 (by decide) hp) (rch_sub c_a0 r_a0 (by decide) hp)).trans hi
        · exact (i_X6_advance_J77 h (rch_sub c_a0 r_a0 (by decide) hp) (rch_sub c_a0 r_a0 (by decide) hp)).trans hi
      · obtain ⟨x59, e59, h⟩ := bd h
        have hi := (i_X6_readDigits e59 (rch_sub c_a0 r_a0 (by decide) hp)).trans hi
        have hp := (p_X6_readDigits e59).trans hp
        have h := Option.some.inj h
        subst h
        exact hi
    · obtain ⟨x45, e45, h⟩ := bd h
      have hi := (i_X6_readWord e45 (rch_sub c_a0 r_a0 (by decide) hp)).trans hi
      have hp := (p_X6_readWord e45).trans hp
      have h := Option.some.inj h
      subst h
      exact hi
theorem i_X6_rewind {a0 : Nat} {μ : Mm} {x : Mm} {q : Nat} (h : f_X6_rewind a0 μ = some x) (c_a0 : ∀ p ∈ ([[]] : List (List Nat)), ¬ rch (mm_P μ) a0 p q) : mm_I ((fun (q : Mm) => q) x) q = mm_I μ q := by
  have hi : mm_I μ q = mm_I μ q := rfl
  have hp : mm_P μ = mm_P μ := rfl
  have r_a0 : rch (mm_P μ) a0 [] a0 := rfl
  obtain ⟨_, h⟩ := ite_p h
  obtain ⟨μ2, e2, h⟩ := bd h
  have hi := (ki_pfI e2 (rch_ne c_a0 (by decide) r_a0)).trans hi
  have hp := (kp_pfI e2).trans hp
  have h := Option.some.inj h
  subst h
  exact hi
theorem i_X10_judgedBook_J151 {a0 : Nat} {l1 : Int32} {l2 : Int32} {μ : Mm} {x : ((Int32 × Int32 × Mm) ⊕ ((Int32 × Int32 × Mm) ⊕ ((Mm) ⊕ (Mm))))} {q : Nat} (h : f_X10_judgedBook_J151 a0 l1 l2 μ = some x)  : mm_I ((sm (fun (q : Int32 × Int32 × Mm) => q.2.2) (sm (fun (q : Int32 × Int32 × Mm) => q.2.2) (sm (fun (q : Mm) => q) (fun (q : Mm) => q)))) x) q = mm_I μ q := by
  have hi : mm_I μ q = mm_I μ q := rfl
  have hp : mm_P μ = mm_P μ := rfl
  have r_a0 : rch (mm_P μ) a0 [] a0 := rfl
  obtain ⟨v151, e151, h⟩ := bd h
  have h := Option.some.inj h
  subst h
  exact hi
theorem i_X10_judgedBook_J46 {l1 : Int32} {l2 : Int32} {μ : Mm} {x : (Int32 × Mm)} {q : Nat} (h : f_X10_judgedBook_J46 l1 l2 μ = some x)  : mm_I ((fun (q : (Int32 × Mm)) => q.2) x) q = mm_I μ q := by
  have hi : mm_I μ q = mm_I μ q := rfl
  have hp : mm_P μ = mm_P μ := rfl
  rcases ite_e h with ⟨_, h⟩ | ⟨_, h⟩
  · have h := Option.some.inj h
    subst h
    exact hi
  · have h := Option.some.inj h
    subst h
    exact hi
theorem i_X10_judgedBook_L22 {a0 : Nat} {s22 : Int32 × Int32 × Mm} {x : ((Int32 × Int32 × Mm) ⊕ ((Int32 × Int32 × Mm) ⊕ ((Mm) ⊕ (Mm))))} {q : Nat} (h : f_X10_judgedBook_L22 a0 s22 = some x) (c_a0 : ∀ p ∈ ([[1], [3]] : List (List Nat)), ¬ rch (mm_P ((fun (q : Int32 × Int32 × Mm) => q.2.2) s22)) a0 p q) : mm_I (sm (fun (q : Int32 × Int32 × Mm) => q.2.2) (sm (fun (q : Int32 × Int32 × Mm) => q.2.2) (sm (fun (q : Mm) => q) (fun (q : Mm) => q))) x) q = mm_I ((fun (q : Int32 × Int32 × Mm) => q.2.2) s22) q := by
  have hi : mm_I ((fun (q : Int32 × Int32 × Mm) => q.2.2) s22) q = mm_I ((fun (q : Int32 × Int32 × Mm) => q.2.2) s22) q := rfl
  have hp : mm_P ((fun (q : Int32 × Int32 × Mm) => q.2.2) s22) = mm_P ((fun (q : Int32 × Int32 × Mm) => q.2.2) s22) := rfl
  have r_a0 : rch (mm_P ((fun (q : Int32 × Int32 × Mm) => q.2.2) s22)) a0 [] a0 := rfl
  rcases ite_e h with ⟨_, h⟩ | ⟨_, h⟩
  · have h := Option.some.inj h
    subst h
    exact hi
  · obtain ⟨x30, e30, h⟩ := bd h
    have r_x30 := rch_f r_a0 e30 hp
    obtain ⟨x33, e33, h⟩ := bd h
    have hi := (i_X6_advance e33 (rch_sub c_a0 r_x30 (by decide) hp)).trans hi
    have hp := (p_X6_advance e33).trans hp
    obtain ⟨x37, e37, h⟩ := bd h
    have r_x37 := rch_f r_a0 e37 hp
    obtain ⟨x40, e40, h⟩ := bd h
    rcases ite_e h with ⟨_, h⟩ | ⟨_, h⟩
    · have h := Option.some.inj h
      subst h
      exact hi
    · obtain ⟨x62, e62, h⟩ := bd h
      obtain ⟨x67, e67, h⟩ := bd h
      have r_x67 := rch_f r_a0 e67 hp
      obtain ⟨x70, e70, h⟩ := bd h
      have hi := (i_X6_advance e70 (rch_sub c_a0 r_x67 (by decide) hp)).trans hi
      have hp := (p_X6_advance e70).trans hp
      obtain ⟨x76, e76, h⟩ := bd h
      obtain ⟨x82, e82, h⟩ := bd h
      have r_x82 := rch_f r_a0 e82 hp
      obtain ⟨x85, e85, h⟩ := bd h
      have hi := (i_X6_advance e85 (rch_sub c_a0 r_x82 (by decide) hp)).trans hi
      have hp := (p_X6_advance e85).trans hp
      obtain ⟨x91, e91, h⟩ := bd h
      obtain ⟨x97, e97, h⟩ := bd h
      have r_x97 := rch_f r_a0 e97 hp
      obtain ⟨x100, e100, h⟩ := bd h
      have hi := (i_X6_advance e100 (rch_sub c_a0 r_x97 (by decide) hp)).trans hi
      have hp := (p_X6_advance e100).trans hp
      rcases ite_e h with ⟨_, h⟩ | ⟨_, h⟩
      · have h := Option.some.inj h
        subst h
        exact hi
      · rcases ite_e h with ⟨_, h⟩ | ⟨_, h⟩
        · have h := Option.some.inj h
          subst h
          exact hi
        · rcases ite_e h with ⟨_, h⟩ | ⟨_, h⟩
          · have h := Option.some.inj h
            subst h
            exact hi
          · obtain ⟨x118, e118, h⟩ := bd h
            have r_x118 := rch_f r_a0 e118 hp
            obtain ⟨x121, e121, h⟩ := bd h
            rcases ite_e h with ⟨_, h⟩ | ⟨_, h⟩
            · rcases ite_e h with ⟨_, h⟩ | ⟨_, h⟩
              · obtain ⟨x143, e143, h⟩ := bd h
                have hi := (i_X10_isActRight e143 (rch_sub c_a0 r_a0 (by decide) hp)).trans hi
                have hp := (p_X10_isActRight e143).trans hp
                rcases ite_e h with ⟨_, h⟩ | ⟨_, h⟩
                · exact (i_X10_judgedBook_J151 h ).trans hi
                · exact (i_X10_judgedBook_J151 h ).trans hi
              · exact (i_X10_judgedBook_J151 h ).trans hi
            · have h := Option.some.inj h
              subst h
              exact hi
theorem i_X10_judgedBook_W22 {a0 : Nat} {s22 : Int32 × Int32 × Mm} {b : (Int32 × Int32 × Mm) ⊕ ((Mm) ⊕ (Mm))} {q : Nat} (h : whl (f_X10_judgedBook_L22 a0) s22 = some b) (c_a0 : ∀ p ∈ ([[1], [3]] : List (List Nat)), ¬ rch (mm_P ((fun (q : Int32 × Int32 × Mm) => q.2.2) s22)) a0 p q) : mm_I ((sm (fun (q : Int32 × Int32 × Mm) => q.2.2) (sm (fun (q : Mm) => q) (fun (q : Mm) => q))) b) q = mm_I ((fun (q : Int32 × Int32 × Mm) => q.2.2) s22) q := by
  have key := whl_inv (P := fun s' => mm_I ((fun (q : Int32 × Int32 × Mm) => q.2.2) s') q = mm_I ((fun (q : Int32 × Int32 × Mm) => q.2.2) s22) q ∧ mm_P ((fun (q : Int32 × Int32 × Mm) => q.2.2) s') = mm_P ((fun (q : Int32 × Int32 × Mm) => q.2.2) s22)) (Q := fun b' => mm_I ((sm (fun (q : Int32 × Int32 × Mm) => q.2.2) (sm (fun (q : Mm) => q) (fun (q : Mm) => q))) b') q = mm_I ((fun (q : Int32 × Int32 × Mm) => q.2.2) s22) q) (fun s' x hs1 hx => ?_) ⟨rfl, rfl⟩ h
  · exact key
  · obtain ⟨h1, hP⟩ := hs1
    have k1 := (i_X10_judgedBook_L22 hx (fun p hp hr => c_a0 p hp (by rw [← hP]; exact hr))).trans h1
    have k2 := (p_X10_judgedBook_L22 hx).trans hP
    cases x with
    | inl z => exact ⟨k1, k2⟩
    | inr z => exact k1
theorem i_X10_judgedBook {a0 : Nat} {μ : Mm} {x : (Int32 × Mm)} {q : Nat} (h : f_X10_judgedBook a0 μ = some x) (c_a0 : ∀ p ∈ ([[1], [3], [3, 3], [3, 4]] : List (List Nat)), ¬ rch (mm_P μ) a0 p q) : mm_I ((fun (q : (Int32 × Mm)) => q.2) x) q = mm_I μ q := by
  have hi : mm_I μ q = mm_I μ q := rfl
  have hp : mm_P μ = mm_P μ := rfl
  have r_a0 : rch (mm_P μ) a0 [] a0 := rfl
  obtain ⟨_, h⟩ := ite_p h
  obtain ⟨x1, e1, h⟩ := bd h
  have r_x1 := rch_f r_a0 e1 hp
  obtain ⟨x5, e5, h⟩ := bd h
  obtain ⟨x8, e8, h⟩ := bd h
  have hi := (i_X4_setTurning e8 (rch_sub c_a0 r_x1 (by decide) hp)).trans hi
  have hp := (p_X4_setTurning e8).trans hp
  obtain ⟨x12, e12, h⟩ := bd h
  have r_x12 := rch_f r_a0 e12 hp
  obtain ⟨x15, e15, h⟩ := bd h
  have hi := (i_X6_rewind e15 (rch_sub c_a0 r_x12 (by decide) hp)).trans hi
  have hp := (p_X6_rewind e15).trans hp
  obtain ⟨b22, w22, h⟩ := bd h
  have hi := (i_X10_judgedBook_W22 w22 (rch_sub c_a0 r_a0 (by decide) hp)).trans hi
  have hp := (p_X10_judgedBook_W22 w22).trans hp
  rcases b22 with b22 | b22
  · exact (i_X10_judgedBook_J46 h ).trans hi
  · rcases b22 with b22 | b22
    · have h := Option.some.inj h
      subst h
      exact hi
    · have h := Option.some.inj h
      subst h
      exact hi
theorem i_X10_judge {a0 : Nat} {μ : Mm} {x : (Int32 × Mm)} {q : Nat} (h : f_X10_judge a0 μ = some x) (c_a0 : ∀ p ∈ ([[0], [1], [3], [3, 3], [3, 4]] : List (List Nat)), ¬ rch (mm_P μ) a0 p q) : mm_I ((fun (q : (Int32 × Mm)) => q.2) x) q = mm_I μ q := by
  have hi : mm_I μ q = mm_I μ q := rfl
  have hp : mm_P μ = mm_P μ := rfl
  have r_a0 : rch (mm_P μ) a0 [] a0 := rfl
  obtain ⟨_, h⟩ := ite_p h
  obtain ⟨x1, e1, h⟩ := bd h
  have hi := (i_X10_judgedBook e1 (rch_sub c_a0 r_a0 (by decide) hp)).trans hi
  have hp := (p_X10_judgedBook e1).trans hp
  obtain ⟨x6, e6, h⟩ := bd h
  have r_x6 := rch_f r_a0 e6 hp
  obtain ⟨μ10, e10, h⟩ := bd h
  have hi := (ki_pfI e10 (rch_ne c_a0 (by decide) r_x6)).trans hi
  have hp := (kp_pfI e10).trans hp
  have h := Option.some.inj h
  subst h
  exact hi
theorem i_X3_copyFrom {a0 : Nat} {l1 : Nat} {μ : Mm} {x : Mm} {q : Nat} (h : f_X3_copyFrom a0 l1 μ = some x) (c_a0 : ∀ p ∈ ([[], [0]] : List (List Nat)), ¬ rch (mm_P μ) a0 p q) : mm_I ((fun (q : Mm) => q) x) q = mm_I μ q := by
  have hi : mm_I μ q = mm_I μ q := rfl
  have hp : mm_P μ = mm_P μ := rfl
  have r_a0 : rch (mm_P μ) a0 [] a0 := rfl
  have r_l1 : rch (mm_P μ) l1 [] l1 := rfl
  obtain ⟨_, h⟩ := ite_p h
  obtain ⟨x2, e2, h⟩ := bd h
  obtain ⟨μ5, e5, h⟩ := bd h
  have hi := (ki_pfZ e5 (rch_ne c_a0 (by decide) r_a0)).trans hi
  have hp := (kp_pfZ e5).trans hp
  obtain ⟨x10, e10, h⟩ := bd h
  obtain ⟨μ13, e13, h⟩ := bd h
  have hi := (ki_pfI e13 (rch_ne c_a0 (by decide) r_a0)).trans hi
  have hp := (kp_pfI e13).trans hp
  obtain ⟨x18, e18, h⟩ := bd h
  obtain ⟨μ21, e21, h⟩ := bd h
  have hi := (ki_pfI e21 (rch_ne c_a0 (by decide) r_a0)).trans hi
  have hp := (kp_pfI e21).trans hp
  obtain ⟨x26, e26, h⟩ := bd h
  obtain ⟨μ29, e29, h⟩ := bd h
  have hi := (ki_pfI e29 (rch_ne c_a0 (by decide) r_a0)).trans hi
  have hp := (kp_pfI e29).trans hp
  obtain ⟨x33, e33, h⟩ := bd h
  have r_x33 := rch_f r_l1 e33 hp
  obtain ⟨x38, e38, h⟩ := bd h
  have r_x38 := rch_f r_a0 e38 hp
  obtain ⟨μ44, e44, h⟩ := bd h
  have hi := (ki_cpI e44 (rch_ne c_a0 (by decide) r_x38)).trans hi
  have hp := (kp_cpI e44).trans hp
  have h := Option.some.inj h
  subst h
  exact hi
theorem i_X10_keep {a0 : Nat} {l1 : Int32} {μ : Mm} {x : (Int32 × Mm)} {q : Nat} (h : f_X10_keep a0 l1 μ = some x) (c_a0 : ∀ p ∈ ([[7, 999], [7, 999, 0]] : List (List Nat)), ¬ rch (mm_P μ) a0 p q) : mm_I ((fun (q : (Int32 × Mm)) => q.2) x) q = mm_I μ q := by
  have hi : mm_I μ q = mm_I μ q := rfl
  have hp : mm_P μ = mm_P μ := rfl
  have r_a0 : rch (mm_P μ) a0 [] a0 := rfl
  obtain ⟨_, h⟩ := ite_p h
  rcases ite_e h with ⟨_, h⟩ | ⟨_, h⟩
  · have h := Option.some.inj h
    subst h
    exact hi
  · obtain ⟨x6, e6, h⟩ := bd h
    have r_x6 := rch_f r_a0 e6 hp
    obtain ⟨x9, e9, h⟩ := bd h
    rcases ite_e h with ⟨_, h⟩ | ⟨_, h⟩
    · obtain ⟨x17, e17, h⟩ := bd h
      have r_x17 := rch_f r_a0 e17 hp
      obtain ⟨x20, e20, h⟩ := bd h
      rcases ite_e h with ⟨_, h⟩ | ⟨_, h⟩
      · have h := Option.some.inj h
        subst h
        exact hi
      · obtain ⟨x30, e30, h⟩ := bd h
        have r_x30 := rch_f r_a0 e30 hp
        obtain ⟨x34, e34, h⟩ := bd h
        have r_x34 := rch_e r_x30 e34 hp
        obtain ⟨x36, e36, h⟩ := bd h
        have r_x36 := rch_f r_a0 e36 hp
        obtain ⟨x39, e39, h⟩ := bd h
        have hi := (i_X3_copyFrom e39 (rch_sub c_a0 r_x34 (by decide) hp)).trans hi
        have hp := (p_X3_copyFrom e39).trans hp
        obtain ⟨x43, e43, h⟩ := bd h
        have r_x43 := rch_f r_a0 e43 hp
        obtain ⟨x46, e46, h⟩ := bd h
        have h := Option.some.inj h
        subst h
        exact hi
    · have h := Option.some.inj h
      subst h
      exact hi
theorem i_X10_isKeptBy {a0 : Nat} {l1 : Int32} {l2 : Int32} {l3 : Int32} {l4 : Int32} {μ : Mm} {x : (Int32 × Mm)} {q : Nat} (h : f_X10_isKeptBy a0 l1 l2 l3 l4 μ = some x) (c_a0 : ∀ p ∈ ([[3]] : List (List Nat)), ¬ rch (mm_P μ) a0 p q) : mm_I ((fun (q : (Int32 × Mm)) => q.2) x) q = mm_I μ q := by
  have hi : mm_I μ q = mm_I μ q := rfl
  have hp : mm_P μ = mm_P μ := rfl
  have r_a0 : rch (mm_P μ) a0 [] a0 := rfl
  obtain ⟨_, h⟩ := ite_p h
  obtain ⟨x1, e1, h⟩ := bd h
  have r_x1 := rch_f r_a0 e1 hp
  obtain ⟨x8, e8, h⟩ := bd h
  have hi := (i_X4_setFact e8 (rch_sub c_a0 r_x1 (by decide) hp)).trans hi
  have hp := (p_X4_setFact e8).trans hp
  obtain ⟨x12, e12, h⟩ := bd h
  have r_x12 := rch_f r_a0 e12 hp
  obtain ⟨x17, e17, h⟩ := bd h
  rcases ite_e h with ⟨_, h⟩ | ⟨_, h⟩
  · have h := Option.some.inj h
    subst h
    exact hi
  · have h := Option.some.inj h
    subst h
    exact hi
theorem i_X10_kept_J100 {a0 : Nat} {l1 : Int32} {l2 : Int32} {l3 : Int32} {l4 : Int32} {l5 : Int32} {l6 : Int32} {μ : Mm} {x : ((Int32 × Int32 × Int32 × Mm) ⊕ (Int32 × Mm))} {q : Nat} (h : f_X10_kept_J100 a0 l1 l2 l3 l4 l5 l6 μ = some x)  : mm_I ((sm (fun (q : Int32 × Int32 × Int32 × Mm) => q.2.2.2) (fun (q : Int32 × Mm) => q.2)) x) q = mm_I μ q := by
  have hi : mm_I μ q = mm_I μ q := rfl
  have hp : mm_P μ = mm_P μ := rfl
  have r_a0 : rch (mm_P μ) a0 [] a0 := rfl
  obtain ⟨v100, e100, h⟩ := bd h
  have h := Option.some.inj h
  subst h
  exact hi
theorem i_X10_kept_L53 {a0 : Nat} {l1 : Int32} {l2 : Int32} {l3 : Int32} {s53 : Int32 × Int32 × Int32 × Mm} {x : ((Int32 × Int32 × Int32 × Mm) ⊕ (Int32 × Mm))} {q : Nat} (h : f_X10_kept_L53 a0 l1 l2 l3 s53 = some x) (c_a0 : ∀ p ∈ ([[3]] : List (List Nat)), ¬ rch (mm_P ((fun (q : Int32 × Int32 × Int32 × Mm) => q.2.2.2) s53)) a0 p q) : mm_I (sm (fun (q : Int32 × Int32 × Int32 × Mm) => q.2.2.2) (fun (q : Int32 × Mm) => q.2) x) q = mm_I ((fun (q : Int32 × Int32 × Int32 × Mm) => q.2.2.2) s53) q := by
  have hi : mm_I ((fun (q : Int32 × Int32 × Int32 × Mm) => q.2.2.2) s53) q = mm_I ((fun (q : Int32 × Int32 × Int32 × Mm) => q.2.2.2) s53) q := rfl
  have hp : mm_P ((fun (q : Int32 × Int32 × Int32 × Mm) => q.2.2.2) s53) = mm_P ((fun (q : Int32 × Int32 × Int32 × Mm) => q.2.2.2) s53) := rfl
  have r_a0 : rch (mm_P ((fun (q : Int32 × Int32 × Int32 × Mm) => q.2.2.2) s53)) a0 [] a0 := rfl
  obtain ⟨x57, e57, h⟩ := bd h
  have r_x57 := rch_f r_a0 e57 hp
  obtain ⟨x60, e60, h⟩ := bd h
  rcases ite_e h with ⟨_, h⟩ | ⟨_, h⟩
  · have h := Option.some.inj h
    subst h
    exact hi
  · obtain ⟨x69, e69, h⟩ := bd h
    rcases ite_e h with ⟨_, h⟩ | ⟨_, h⟩
    · exact (i_X10_kept_J100 h ).trans hi
    · obtain ⟨x83, e83, h⟩ := bd h
      have hi := (i_X10_isKeptBy e83 (rch_sub c_a0 r_a0 (by decide) hp)).trans hi
      have hp := (p_X10_isKeptBy e83).trans hp
      rcases ite_e h with ⟨_, h⟩ | ⟨_, h⟩
      · exact (i_X10_kept_J100 h ).trans hi
      · obtain ⟨x91, e91, h⟩ := bd h
        exact (i_X10_kept_J100 h ).trans hi
theorem i_X10_kept_W53 {a0 : Nat} {l1 : Int32} {l2 : Int32} {l3 : Int32} {s53 : Int32 × Int32 × Int32 × Mm} {b : Int32 × Mm} {q : Nat} (h : whl (f_X10_kept_L53 a0 l1 l2 l3) s53 = some b) (c_a0 : ∀ p ∈ ([[3]] : List (List Nat)), ¬ rch (mm_P ((fun (q : Int32 × Int32 × Int32 × Mm) => q.2.2.2) s53)) a0 p q) : mm_I ((fun (q : Int32 × Mm) => q.2) b) q = mm_I ((fun (q : Int32 × Int32 × Int32 × Mm) => q.2.2.2) s53) q := by
  have key := whl_inv (P := fun s' => mm_I ((fun (q : Int32 × Int32 × Int32 × Mm) => q.2.2.2) s') q = mm_I ((fun (q : Int32 × Int32 × Int32 × Mm) => q.2.2.2) s53) q ∧ mm_P ((fun (q : Int32 × Int32 × Int32 × Mm) => q.2.2.2) s') = mm_P ((fun (q : Int32 × Int32 × Int32 × Mm) => q.2.2.2) s53)) (Q := fun b' => mm_I ((fun (q : Int32 × Mm) => q.2) b') q = mm_I ((fun (q : Int32 × Int32 × Int32 × Mm) => q.2.2.2) s53) q) (fun s' x hs1 hx => ?_) ⟨rfl, rfl⟩ h
  · exact key
  · obtain ⟨h1, hP⟩ := hs1
    have k1 := (i_X10_kept_L53 hx (fun p hp hr => c_a0 p hp (by rw [← hP]; exact hr))).trans h1
    have k2 := (p_X10_kept_L53 hx).trans hP
    cases x with
    | inl z => exact ⟨k1, k2⟩
    | inr z => exact k1
theorem i_X10_kept {a0 : Nat} {l1 : Int32} {l2 : Int32} {l3 : Int32} {μ : Mm} {x : (Int32 × Mm)} {q : Nat} (h : f_X10_kept a0 l1 l2 l3 μ = some x) (c_a0 : ∀ p ∈ ([[3], [3, 3], [3, 4]] : List (List Nat)), ¬ rch (mm_P μ) a0 p q) : mm_I ((fun (q : (Int32 × Mm)) => q.2) x) q = mm_I μ q := by
  have hi : mm_I μ q = mm_I μ q := rfl
  have hp : mm_P μ = mm_P μ := rfl
  have r_a0 : rch (mm_P μ) a0 [] a0 := rfl
  obtain ⟨_, h⟩ := ite_p h
  obtain ⟨x1, e1, h⟩ := bd h
  have r_x1 := rch_f r_a0 e1 hp
  obtain ⟨x5, e5, h⟩ := bd h
  rcases ite_e h with ⟨_, h⟩ | ⟨_, h⟩
  · have h := Option.some.inj h
    subst h
    exact hi
  · obtain ⟨x12, e12, h⟩ := bd h
    have r_x12 := rch_f r_a0 e12 hp
    obtain ⟨x16, e16, h⟩ := bd h
    rcases ite_e h with ⟨_, h⟩ | ⟨_, h⟩
    · have h := Option.some.inj h
      subst h
      exact hi
    · obtain ⟨x23, e23, h⟩ := bd h
      rcases ite_e h with ⟨_, h⟩ | ⟨_, h⟩
      · have h := Option.some.inj h
        subst h
        exact hi
      · obtain ⟨x33, e33, h⟩ := bd h
        have r_x33 := rch_f r_a0 e33 hp
        obtain ⟨x37, e37, h⟩ := bd h
        obtain ⟨x40, e40, h⟩ := bd h
        have hi := (i_X4_setTurning e40 (rch_sub c_a0 r_x33 (by decide) hp)).trans hi
        have hp := (p_X4_setTurning e40).trans hp
        obtain ⟨b53, w53, h⟩ := bd h
        have hi := (i_X10_kept_W53 w53 (rch_sub c_a0 r_a0 (by decide) hp)).trans hi
        have hp := (p_X10_kept_W53 w53).trans hp
        have h := Option.some.inj h
        subst h
        exact hi
theorem i_X10_knows_L45 {a0 : Nat} {l1 : Int32} {l2 : Int32} {l3 : Int32} {s45 : Int32 × Int32 × Mm} {x : ((Int32 × Int32 × Mm) ⊕ (Int32 × Mm))} {q : Nat} (h : f_X10_knows_L45 a0 l1 l2 l3 s45 = some x) (c_a0 : ∀ p ∈ ([[3]] : List (List Nat)), ¬ rch (mm_P ((fun (q : Int32 × Int32 × Mm) => q.2.2) s45)) a0 p q) : mm_I (sm (fun (q : Int32 × Int32 × Mm) => q.2.2) (fun (q : Int32 × Mm) => q.2) x) q = mm_I ((fun (q : Int32 × Int32 × Mm) => q.2.2) s45) q := by
  have hi : mm_I ((fun (q : Int32 × Int32 × Mm) => q.2.2) s45) q = mm_I ((fun (q : Int32 × Int32 × Mm) => q.2.2) s45) q := rfl
  have hp : mm_P ((fun (q : Int32 × Int32 × Mm) => q.2.2) s45) = mm_P ((fun (q : Int32 × Int32 × Mm) => q.2.2) s45) := rfl
  have r_a0 : rch (mm_P ((fun (q : Int32 × Int32 × Mm) => q.2.2) s45)) a0 [] a0 := rfl
  obtain ⟨x48, e48, h⟩ := bd h
  have r_x48 := rch_f r_a0 e48 hp
  obtain ⟨x51, e51, h⟩ := bd h
  have r_x51 := rch_f r_x48 e51 hp
  obtain ⟨x54, e54, h⟩ := bd h
  rcases ite_e h with ⟨_, h⟩ | ⟨_, h⟩
  · have h := Option.some.inj h
    subst h
    exact hi
  · obtain ⟨x61, e61, h⟩ := bd h
    have r_x61 := rch_f r_a0 e61 hp
    obtain ⟨x68, e68, h⟩ := bd h
    have hi := (i_X4_setFact e68 (rch_sub c_a0 r_x61 (by decide) hp)).trans hi
    have hp := (p_X4_setFact e68).trans hp
    obtain ⟨x74, e74, h⟩ := bd h
    have r_x74 := rch_f r_a0 e74 hp
    obtain ⟨x78, e78, h⟩ := bd h
    obtain ⟨v89, e89, h⟩ := bd h
    obtain ⟨v91, e91, h⟩ := bd h
    have h := Option.some.inj h
    subst h
    exact hi
theorem i_X10_knows_W45 {a0 : Nat} {l1 : Int32} {l2 : Int32} {l3 : Int32} {s45 : Int32 × Int32 × Mm} {b : Int32 × Mm} {q : Nat} (h : whl (f_X10_knows_L45 a0 l1 l2 l3) s45 = some b) (c_a0 : ∀ p ∈ ([[3]] : List (List Nat)), ¬ rch (mm_P ((fun (q : Int32 × Int32 × Mm) => q.2.2) s45)) a0 p q) : mm_I ((fun (q : Int32 × Mm) => q.2) b) q = mm_I ((fun (q : Int32 × Int32 × Mm) => q.2.2) s45) q := by
  have key := whl_inv (P := fun s' => mm_I ((fun (q : Int32 × Int32 × Mm) => q.2.2) s') q = mm_I ((fun (q : Int32 × Int32 × Mm) => q.2.2) s45) q ∧ mm_P ((fun (q : Int32 × Int32 × Mm) => q.2.2) s') = mm_P ((fun (q : Int32 × Int32 × Mm) => q.2.2) s45)) (Q := fun b' => mm_I ((fun (q : Int32 × Mm) => q.2) b') q = mm_I ((fun (q : Int32 × Int32 × Mm) => q.2.2) s45) q) (fun s' x hs1 hx => ?_) ⟨rfl, rfl⟩ h
  · exact key
  · obtain ⟨h1, hP⟩ := hs1
    have k1 := (i_X10_knows_L45 hx (fun p hp hr => c_a0 p hp (by rw [← hP]; exact hr))).trans h1
    have k2 := (p_X10_knows_L45 hx).trans hP
    cases x with
    | inl z => exact ⟨k1, k2⟩
    | inr z => exact k1
theorem i_X10_knows {a0 : Nat} {l1 : Int32} {l2 : Int32} {l3 : Int32} {μ : Mm} {x : (Int32 × Mm)} {q : Nat} (h : f_X10_knows a0 l1 l2 l3 μ = some x) (c_a0 : ∀ p ∈ ([[3], [3, 3], [3, 4]] : List (List Nat)), ¬ rch (mm_P μ) a0 p q) : mm_I ((fun (q : (Int32 × Mm)) => q.2) x) q = mm_I μ q := by
  have hi : mm_I μ q = mm_I μ q := rfl
  have hp : mm_P μ = mm_P μ := rfl
  have r_a0 : rch (mm_P μ) a0 [] a0 := rfl
  obtain ⟨_, h⟩ := ite_p h
  obtain ⟨x1, e1, h⟩ := bd h
  have r_x1 := rch_f r_a0 e1 hp
  obtain ⟨x5, e5, h⟩ := bd h
  rcases ite_e h with ⟨_, h⟩ | ⟨_, h⟩
  · have h := Option.some.inj h
    subst h
    exact hi
  · obtain ⟨x12, e12, h⟩ := bd h
    rcases ite_e h with ⟨_, h⟩ | ⟨_, h⟩
    · have h := Option.some.inj h
      subst h
      exact hi
    · obtain ⟨x19, e19, h⟩ := bd h
      rcases ite_e h with ⟨_, h⟩ | ⟨_, h⟩
      · have h := Option.some.inj h
        subst h
        exact hi
      · obtain ⟨x29, e29, h⟩ := bd h
        have r_x29 := rch_f r_a0 e29 hp
        obtain ⟨x33, e33, h⟩ := bd h
        obtain ⟨x36, e36, h⟩ := bd h
        have hi := (i_X4_setTurning e36 (rch_sub c_a0 r_x29 (by decide) hp)).trans hi
        have hp := (p_X4_setTurning e36).trans hp
        obtain ⟨b45, w45, h⟩ := bd h
        have hi := (i_X10_knows_W45 w45 (rch_sub c_a0 r_a0 (by decide) hp)).trans hi
        have hp := (p_X10_knows_W45 w45).trans hp
        have h := Option.some.inj h
        subst h
        exact hi
theorem i_X10_wishesMet_J143 {a0 : Nat} {l1 : Int32} {l2 : Int32} {l3 : Int32} {μ : Mm} {x : ((Int32 × Int32 × Mm) ⊕ (Int32 × Mm))} {q : Nat} (h : f_X10_wishesMet_J143 a0 l1 l2 l3 μ = some x)  : mm_I ((sm (fun (q : Int32 × Int32 × Mm) => q.2.2) (fun (q : Int32 × Mm) => q.2)) x) q = mm_I μ q := by
  have hi : mm_I μ q = mm_I μ q := rfl
  have hp : mm_P μ = mm_P μ := rfl
  have r_a0 : rch (mm_P μ) a0 [] a0 := rfl
  obtain ⟨v143, e143, h⟩ := bd h
  have h := Option.some.inj h
  subst h
  exact hi
theorem i_X10_wishesMet_J130 {a0 : Nat} {l1 : Int32} {l2 : Int32} {l3 : Int32} {l4 : Int32} {l7 : Int32} {μ : Mm} {x : ((Int32 × Int32 × Mm) ⊕ (Int32 × Mm))} {q : Nat} (h : f_X10_wishesMet_J130 a0 l1 l2 l3 l4 l7 μ = some x)  : mm_I ((sm (fun (q : Int32 × Int32 × Mm) => q.2.2) (fun (q : Int32 × Mm) => q.2)) x) q = mm_I μ q := by
  have hi : mm_I μ q = mm_I μ q := rfl
  have hp : mm_P μ = mm_P μ := rfl
  have r_a0 : rch (mm_P μ) a0 [] a0 := rfl
  rcases ite_e h with ⟨_, h⟩ | ⟨_, h⟩
  · obtain ⟨v142, e142, h⟩ := bd h
    exact (i_X10_wishesMet_J143 h ).trans hi
  · exact (i_X10_wishesMet_J143 h ).trans hi
theorem i_X10_wishesMet_J128 {a0 : Nat} {l1 : Int32} {l2 : Int32} {l3 : Int32} {l4 : Int32} {k0 : Int32} {μ : Mm} {x : ((Int32 × Int32 × Mm) ⊕ (Int32 × Mm))} {q : Nat} (h : f_X10_wishesMet_J128 a0 l1 l2 l3 l4 k0 μ = some x)  : mm_I ((sm (fun (q : Int32 × Int32 × Mm) => q.2.2) (fun (q : Int32 × Mm) => q.2)) x) q = mm_I μ q := by
  have hi : mm_I μ q = mm_I μ q := rfl
  have hp : mm_P μ = mm_P μ := rfl
  have r_a0 : rch (mm_P μ) a0 [] a0 := rfl
  exact (i_X10_wishesMet_J130 h ).trans hi
theorem i_X10_wishesMet_J39 {a0 : Nat} {l1 : Int32} {l2 : Int32} {l3 : Int32} {k0 : Int32} {μ : Mm} {x : ((Int32 × Int32 × Mm) ⊕ (Int32 × Mm))} {q : Nat} (h : f_X10_wishesMet_J39 a0 l1 l2 l3 k0 μ = some x) (c_a0 : ∀ p ∈ ([[3]] : List (List Nat)), ¬ rch (mm_P μ) a0 p q) : mm_I ((sm (fun (q : Int32 × Int32 × Mm) => q.2.2) (fun (q : Int32 × Mm) => q.2)) x) q = mm_I μ q := by
  have hi : mm_I μ q = mm_I μ q := rfl
  have hp : mm_P μ = mm_P μ := rfl
  have r_a0 : rch (mm_P μ) a0 [] a0 := rfl
  obtain ⟨x42, e42, h⟩ := bd h
  have r_x42 := rch_f r_a0 e42 hp
  obtain ⟨x45, e45, h⟩ := bd h
  have r_x45 := rch_f r_x42 e45 hp
  obtain ⟨x50, e50, h⟩ := bd h
  obtain ⟨x56, e56, h⟩ := bd h
  have r_x56 := rch_f r_a0 e56 hp
  obtain ⟨x59, e59, h⟩ := bd h
  have r_x59 := rch_f r_x56 e59 hp
  obtain ⟨x64, e64, h⟩ := bd h
  obtain ⟨x73, e73, h⟩ := bd h
  have r_x73 := rch_f r_a0 e73 hp
  obtain ⟨x78, e78, h⟩ := bd h
  rcases ite_e h with ⟨_, h⟩ | ⟨_, h⟩
  · exact (i_X10_wishesMet_J130 h ).trans hi
  · obtain ⟨x85, e85, h⟩ := bd h
    have r_x85 := rch_f r_a0 e85 hp
    obtain ⟨x93, e93, h⟩ := bd h
    have hi := (i_X4_setFact e93 (rch_sub c_a0 r_x85 (by decide) hp)).trans hi
    have hp := (p_X4_setFact e93).trans hp
    obtain ⟨x97, e97, h⟩ := bd h
    have r_x97 := rch_f r_a0 e97 hp
    obtain ⟨x101, e101, h⟩ := bd h
    have r_x101 := rch_f r_a0 e101 hp
    obtain ⟨x104, e104, h⟩ := bd h
    have r_x104 := rch_f r_x101 e104 hp
    obtain ⟨x109, e109, h⟩ := bd h
    obtain ⟨x112, e112, h⟩ := bd h
    rcases ite_e h with ⟨_, h⟩ | ⟨_, h⟩
    · exact (i_X10_wishesMet_J128 h ).trans hi
    · exact (i_X10_wishesMet_J128 h ).trans hi
theorem i_X10_wishesMet_L4 {a0 : Nat} {l1 : Int32} {s4 : Int32 × Int32 × Mm} {x : ((Int32 × Int32 × Mm) ⊕ (Int32 × Mm))} {q : Nat} (h : f_X10_wishesMet_L4 a0 l1 s4 = some x) (c_a0 : ∀ p ∈ ([[3]] : List (List Nat)), ¬ rch (mm_P ((fun (q : Int32 × Int32 × Mm) => q.2.2) s4)) a0 p q) : mm_I (sm (fun (q : Int32 × Int32 × Mm) => q.2.2) (fun (q : Int32 × Mm) => q.2) x) q = mm_I ((fun (q : Int32 × Int32 × Mm) => q.2.2) s4) q := by
  have hi : mm_I ((fun (q : Int32 × Int32 × Mm) => q.2.2) s4) q = mm_I ((fun (q : Int32 × Int32 × Mm) => q.2.2) s4) q := rfl
  have hp : mm_P ((fun (q : Int32 × Int32 × Mm) => q.2.2) s4) = mm_P ((fun (q : Int32 × Int32 × Mm) => q.2.2) s4) := rfl
  have r_a0 : rch (mm_P ((fun (q : Int32 × Int32 × Mm) => q.2.2) s4)) a0 [] a0 := rfl
  obtain ⟨x6, e6, h⟩ := bd h
  have r_x6 := rch_f r_a0 e6 hp
  obtain ⟨x9, e9, h⟩ := bd h
  have r_x9 := rch_f r_x6 e9 hp
  obtain ⟨x12, e12, h⟩ := bd h
  rcases ite_e h with ⟨_, h⟩ | ⟨_, h⟩
  · have h := Option.some.inj h
    subst h
    exact hi
  · obtain ⟨x19, e19, h⟩ := bd h
    have r_x19 := rch_f r_a0 e19 hp
    obtain ⟨x22, e22, h⟩ := bd h
    have r_x22 := rch_f r_x19 e22 hp
    obtain ⟨x27, e27, h⟩ := bd h
    rcases ite_e h with ⟨_, h⟩ | ⟨_, h⟩
    · exact (i_X10_wishesMet_J39 h (rch_sub c_a0 r_a0 (by decide) hp)).trans hi
    · exact (i_X10_wishesMet_J39 h (rch_sub c_a0 r_a0 (by decide) hp)).trans hi
theorem i_X10_wishesMet_W4 {a0 : Nat} {l1 : Int32} {s4 : Int32 × Int32 × Mm} {b : Int32 × Mm} {q : Nat} (h : whl (f_X10_wishesMet_L4 a0 l1) s4 = some b) (c_a0 : ∀ p ∈ ([[3]] : List (List Nat)), ¬ rch (mm_P ((fun (q : Int32 × Int32 × Mm) => q.2.2) s4)) a0 p q) : mm_I ((fun (q : Int32 × Mm) => q.2) b) q = mm_I ((fun (q : Int32 × Int32 × Mm) => q.2.2) s4) q := by
  have key := whl_inv (P := fun s' => mm_I ((fun (q : Int32 × Int32 × Mm) => q.2.2) s') q = mm_I ((fun (q : Int32 × Int32 × Mm) => q.2.2) s4) q ∧ mm_P ((fun (q : Int32 × Int32 × Mm) => q.2.2) s') = mm_P ((fun (q : Int32 × Int32 × Mm) => q.2.2) s4)) (Q := fun b' => mm_I ((fun (q : Int32 × Mm) => q.2) b') q = mm_I ((fun (q : Int32 × Int32 × Mm) => q.2.2) s4) q) (fun s' x hs1 hx => ?_) ⟨rfl, rfl⟩ h
  · exact key
  · obtain ⟨h1, hP⟩ := hs1
    have k1 := (i_X10_wishesMet_L4 hx (fun p hp hr => c_a0 p hp (by rw [← hP]; exact hr))).trans h1
    have k2 := (p_X10_wishesMet_L4 hx).trans hP
    cases x with
    | inl z => exact ⟨k1, k2⟩
    | inr z => exact k1
theorem i_X10_wishesMet {a0 : Nat} {l1 : Int32} {μ : Mm} {x : (Int32 × Mm)} {q : Nat} (h : f_X10_wishesMet a0 l1 μ = some x) (c_a0 : ∀ p ∈ ([[3]] : List (List Nat)), ¬ rch (mm_P μ) a0 p q) : mm_I ((fun (q : (Int32 × Mm)) => q.2) x) q = mm_I μ q := by
  have hi : mm_I μ q = mm_I μ q := rfl
  have hp : mm_P μ = mm_P μ := rfl
  have r_a0 : rch (mm_P μ) a0 [] a0 := rfl
  obtain ⟨_, h⟩ := ite_p h
  obtain ⟨b4, w4, h⟩ := bd h
  have hi := (i_X10_wishesMet_W4 w4 (rch_sub c_a0 r_a0 (by decide) hp)).trans hi
  have hp := (p_X10_wishesMet_W4 w4).trans hp
  have h := Option.some.inj h
  subst h
  exact hi
theorem i_X10_met {a0 : Nat} {l1 : Int32} {μ : Mm} {x : (Int32 × Mm)} {q : Nat} (h : f_X10_met a0 l1 μ = some x) (c_a0 : ∀ p ∈ ([[3], [3, 3], [3, 4]] : List (List Nat)), ¬ rch (mm_P μ) a0 p q) : mm_I ((fun (q : (Int32 × Mm)) => q.2) x) q = mm_I μ q := by
  have hi : mm_I μ q = mm_I μ q := rfl
  have hp : mm_P μ = mm_P μ := rfl
  have r_a0 : rch (mm_P μ) a0 [] a0 := rfl
  obtain ⟨_, h⟩ := ite_p h
  rcases ite_e h with ⟨_, h⟩ | ⟨_, h⟩
  · have h := Option.some.inj h
    subst h
    exact hi
  · obtain ⟨x7, e7, h⟩ := bd h
    have r_x7 := rch_f r_a0 e7 hp
    obtain ⟨x10, e10, h⟩ := bd h
    rcases ite_e h with ⟨_, h⟩ | ⟨_, h⟩
    · obtain ⟨x21, e21, h⟩ := bd h
      have r_x21 := rch_f r_a0 e21 hp
      obtain ⟨x25, e25, h⟩ := bd h
      obtain ⟨x28, e28, h⟩ := bd h
      have hi := (i_X4_setTurning e28 (rch_sub c_a0 r_x21 (by decide) hp)).trans hi
      have hp := (p_X4_setTurning e28).trans hp
      obtain ⟨x33, e33, h⟩ := bd h
      have hi := (i_X10_wishesMet e33 (rch_sub c_a0 r_a0 (by decide) hp)).trans hi
      have hp := (p_X10_wishesMet e33).trans hp
      have h := Option.some.inj h
      subst h
      exact hi
    · have h := Option.some.inj h
      subst h
      exact hi
theorem i_X10_number {a0 : Nat} {μ : Mm} {x : (Int32 × Mm)} {q : Nat} (h : f_X10_number a0 μ = some x) (c_a0 : ∀ p ∈ ([[0]] : List (List Nat)), ¬ rch (mm_P μ) a0 p q) : mm_I ((fun (q : (Int32 × Mm)) => q.2) x) q = mm_I μ q := by
  have hi : mm_I μ q = mm_I μ q := rfl
  have hp : mm_P μ = mm_P μ := rfl
  have r_a0 : rch (mm_P μ) a0 [] a0 := rfl
  obtain ⟨_, h⟩ := ite_p h
  obtain ⟨x1, e1, h⟩ := bd h
  obtain ⟨x6, e6, h⟩ := bd h
  have r_x6 := rch_f r_a0 e6 hp
  obtain ⟨μ10, e10, h⟩ := bd h
  have hi := (ki_pfI e10 (rch_ne c_a0 (by decide) r_x6)).trans hi
  have hp := (kp_pfI e10).trans hp
  have h := Option.some.inj h
  subst h
  exact hi
theorem i_X10_sendSign_L16 {a0 : Nat} {l1 : Int32} {l2 : Int32} {s16 : Int32 × Int32 × Int32 × Mm} {x : ((Int32 × Int32 × Int32 × Mm) ⊕ ((Mm) ⊕ ((Int32 × Mm) ⊕ (Mm))))} {q : Nat} (h : f_X10_sendSign_L16 a0 l1 l2 s16 = some x) (c_a0 : ∀ p ∈ ([[], [8]] : List (List Nat)), ¬ rch (mm_P ((fun (q : Int32 × Int32 × Int32 × Mm) => q.2.2.2) s16)) a0 p q) : mm_I (sm (fun (q : Int32 × Int32 × Int32 × Mm) => q.2.2.2) (sm (fun (q : Mm) => q) (sm (fun (q : Int32 × Mm) => q.2) (fun (q : Mm) => q))) x) q = mm_I ((fun (q : Int32 × Int32 × Int32 × Mm) => q.2.2.2) s16) q := by
  have hi : mm_I ((fun (q : Int32 × Int32 × Int32 × Mm) => q.2.2.2) s16) q = mm_I ((fun (q : Int32 × Int32 × Int32 × Mm) => q.2.2.2) s16) q := rfl
  have hp : mm_P ((fun (q : Int32 × Int32 × Int32 × Mm) => q.2.2.2) s16) = mm_P ((fun (q : Int32 × Int32 × Int32 × Mm) => q.2.2.2) s16) := rfl
  have r_a0 : rch (mm_P ((fun (q : Int32 × Int32 × Int32 × Mm) => q.2.2.2) s16)) a0 [] a0 := rfl
  obtain ⟨x19, e19, h⟩ := bd h
  have r_x19 := rch_f r_a0 e19 hp
  obtain ⟨x22, e22, h⟩ := bd h
  rcases ite_e h with ⟨_, h⟩ | ⟨_, h⟩
  · have h := Option.some.inj h
    subst h
    exact hi
  · obtain ⟨x27, e27, h⟩ := bd h
    have r_x27 := rch_f r_a0 e27 hp
    obtain ⟨x34, e34, h⟩ := bd h
    obtain ⟨x42, e42, h⟩ := bd h
    rcases ite_e h with ⟨_, h⟩ | ⟨_, h⟩
    · have h := Option.some.inj h
      subst h
      exact hi
    · rcases ite_e h with ⟨_, h⟩ | ⟨_, h⟩
      · have h := Option.some.inj h
        subst h
        exact hi
      · rcases ite_e h with ⟨_, h⟩ | ⟨_, h⟩
        · have h := Option.some.inj h
          subst h
          exact hi
        · obtain ⟨x68, e68, h⟩ := bd h
          have r_x68 := rch_f r_a0 e68 hp
          obtain ⟨μ75, e75, h⟩ := bd h
          have hi := (ki_paI e75 (rch_ne c_a0 (by decide) r_x68)).trans hi
          have hp := (kp_paI e75).trans hp
          obtain ⟨μ81, e81, h⟩ := bd h
          have hi := (ki_pfI e81 (rch_ne c_a0 (by decide) r_a0)).trans hi
          have hp := (kp_pfI e81).trans hp
          rcases ite_e h with ⟨_, h⟩ | ⟨_, h⟩
          · have h := Option.some.inj h
            subst h
            exact hi
          · obtain ⟨v93, e93, h⟩ := bd h
            obtain ⟨v96, e96, h⟩ := bd h
            have h := Option.some.inj h
            subst h
            exact hi
theorem i_X10_sendSign_W16 {a0 : Nat} {l1 : Int32} {l2 : Int32} {s16 : Int32 × Int32 × Int32 × Mm} {b : (Mm) ⊕ ((Int32 × Mm) ⊕ (Mm))} {q : Nat} (h : whl (f_X10_sendSign_L16 a0 l1 l2) s16 = some b) (c_a0 : ∀ p ∈ ([[], [8]] : List (List Nat)), ¬ rch (mm_P ((fun (q : Int32 × Int32 × Int32 × Mm) => q.2.2.2) s16)) a0 p q) : mm_I ((sm (fun (q : Mm) => q) (sm (fun (q : Int32 × Mm) => q.2) (fun (q : Mm) => q))) b) q = mm_I ((fun (q : Int32 × Int32 × Int32 × Mm) => q.2.2.2) s16) q := by
  have key := whl_inv (P := fun s' => mm_I ((fun (q : Int32 × Int32 × Int32 × Mm) => q.2.2.2) s') q = mm_I ((fun (q : Int32 × Int32 × Int32 × Mm) => q.2.2.2) s16) q ∧ mm_P ((fun (q : Int32 × Int32 × Int32 × Mm) => q.2.2.2) s') = mm_P ((fun (q : Int32 × Int32 × Int32 × Mm) => q.2.2.2) s16)) (Q := fun b' => mm_I ((sm (fun (q : Mm) => q) (sm (fun (q : Int32 × Mm) => q.2) (fun (q : Mm) => q))) b') q = mm_I ((fun (q : Int32 × Int32 × Int32 × Mm) => q.2.2.2) s16) q) (fun s' x hs1 hx => ?_) ⟨rfl, rfl⟩ h
  · exact key
  · obtain ⟨h1, hP⟩ := hs1
    have k1 := (i_X10_sendSign_L16 hx (fun p hp hr => c_a0 p hp (by rw [← hP]; exact hr))).trans h1
    have k2 := (p_X10_sendSign_L16 hx).trans hP
    cases x with
    | inl z => exact ⟨k1, k2⟩
    | inr z => exact k1
theorem i_X10_sendSign {a0 : Nat} {l1 : Int32} {l2 : Int32} {l3 : Int32} {μ : Mm} {x : (Int32 × Mm)} {q : Nat} (h : f_X10_sendSign a0 l1 l2 l3 μ = some x) (c_a0 : ∀ p ∈ ([[], [8]] : List (List Nat)), ¬ rch (mm_P μ) a0 p q) : mm_I ((fun (q : (Int32 × Mm)) => q.2) x) q = mm_I μ q := by
  have hi : mm_I μ q = mm_I μ q := rfl
  have hp : mm_P μ = mm_P μ := rfl
  have r_a0 : rch (mm_P μ) a0 [] a0 := rfl
  obtain ⟨_, h⟩ := ite_p h
  obtain ⟨x7, e7, h⟩ := bd h
  have r_x7 := rch_f r_a0 e7 hp
  obtain ⟨μ12, e12, h⟩ := bd h
  have hi := (ki_paI e12 (rch_ne c_a0 (by decide) r_x7)).trans hi
  have hp := (kp_paI e12).trans hp
  obtain ⟨b16, w16, h⟩ := bd h
  have hi := (i_X10_sendSign_W16 w16 (rch_sub c_a0 r_a0 (by decide) hp)).trans hi
  have hp := (p_X10_sendSign_W16 w16).trans hp
  rcases b16 with b16 | b16
  · have h := Option.some.inj h
    subst h
    exact hi
  · rcases b16 with b16 | b16
    · have h := Option.some.inj h
      subst h
      exact hi
    · have h := Option.some.inj h
      subst h
      exact hi
theorem i_X10_over {a0 : Nat} {l1 : Int32} {l2 : Int32} {l3 : Int32} {l4 : Int32} {μ : Mm} {x : (Int32 × Mm)} {q : Nat} (h : f_X10_over a0 l1 l2 l3 l4 μ = some x) (c_a0 : ∀ p ∈ ([[], [8]] : List (List Nat)), ¬ rch (mm_P μ) a0 p q) : mm_I ((fun (q : (Int32 × Mm)) => q.2) x) q = mm_I μ q := by
  have hi : mm_I μ q = mm_I μ q := rfl
  have hp : mm_P μ = mm_P μ := rfl
  have r_a0 : rch (mm_P μ) a0 [] a0 := rfl
  obtain ⟨_, h⟩ := ite_p h
  obtain ⟨x1, e1, h⟩ := bd h
  have r_x1 := rch_f r_a0 e1 hp
  obtain ⟨x5, e5, h⟩ := bd h
  rcases ite_e h with ⟨_, h⟩ | ⟨_, h⟩
  · have h := Option.some.inj h
    subst h
    exact hi
  · obtain ⟨x12, e12, h⟩ := bd h
    have r_x12 := rch_f r_a0 e12 hp
    obtain ⟨x16, e16, h⟩ := bd h
    rcases ite_e h with ⟨_, h⟩ | ⟨_, h⟩
    · have h := Option.some.inj h
      subst h
      exact hi
    · obtain ⟨x23, e23, h⟩ := bd h
      rcases ite_e h with ⟨_, h⟩ | ⟨_, h⟩
      · have h := Option.some.inj h
        subst h
        exact hi
      · rcases ite_e h with ⟨_, h⟩ | ⟨_, h⟩
        · rcases ite_e h with ⟨_, h⟩ | ⟨_, h⟩
          · have h := Option.some.inj h
            subst h
            exact hi
          · obtain ⟨x49, e49, h⟩ := bd h
            have hi := (i_X10_sendSign e49 (rch_sub c_a0 r_a0 (by decide) hp)).trans hi
            have hp := (p_X10_sendSign e49).trans hp
            rcases ite_e h with ⟨_, h⟩ | ⟨_, h⟩
            · have h := Option.some.inj h
              subst h
              exact hi
            · obtain ⟨x59, e59, h⟩ := bd h
              rcases ite_e h with ⟨_, h⟩ | ⟨_, h⟩
              · have h := Option.some.inj h
                subst h
                exact hi
              · obtain ⟨x68, e68, h⟩ := bd h
                have r_x68 := rch_f r_a0 e68 hp
                obtain ⟨x71, e71, h⟩ := bd h
                rcases ite_e h with ⟨_, h⟩ | ⟨_, h⟩
                · obtain ⟨x78, e78, h⟩ := bd h
                  have r_x78 := rch_f r_a0 e78 hp
                  obtain ⟨x83, e83, h⟩ := bd h
                  have h := Option.some.inj h
                  subst h
                  exact hi
                · have h := Option.some.inj h
                  subst h
                  exact hi
        · have h := Option.some.inj h
          subst h
          exact hi
theorem i_X10_parts_J129 {a0 : Nat} {l1 : Int32} {l2 : Int32} {l3 : Int32} {μ : Mm} {x : (Int64 × Mm)} {q : Nat} (h : f_X10_parts_J129 a0 l1 l2 l3 μ = some x)  : mm_I ((fun (q : (Int64 × Mm)) => q.2) x) q = mm_I μ q := by
  have hi : mm_I μ q = mm_I μ q := rfl
  have hp : mm_P μ = mm_P μ := rfl
  have r_a0 : rch (mm_P μ) a0 [] a0 := rfl
  obtain ⟨x130, e130, h⟩ := bd h
  have r_x130 := rch_f r_a0 e130 hp
  obtain ⟨x138, e138, h⟩ := bd h
  have h := Option.some.inj h
  subst h
  exact hi
theorem i_X10_parts_J123 {a0 : Nat} {l1 : Int32} {l2 : Int32} {l3 : Int32} {l4 : Int32} {μ : Mm} {x : ((Int32 × Mm) ⊕ (Mm))} {q : Nat} (h : f_X10_parts_J123 a0 l1 l2 l3 l4 μ = some x)  : mm_I ((sm (fun (q : Int32 × Mm) => q.2) (fun (q : Mm) => q)) x) q = mm_I μ q := by
  have hi : mm_I μ q = mm_I μ q := rfl
  have hp : mm_P μ = mm_P μ := rfl
  have r_a0 : rch (mm_P μ) a0 [] a0 := rfl
  obtain ⟨v123, e123, h⟩ := bd h
  have h := Option.some.inj h
  subst h
  exact hi
theorem i_X10_parts_L54 {a0 : Nat} {l1 : Int32} {l2 : Int32} {l3 : Int32} {l4 : Int32} {s54 : Int32 × Mm} {x : ((Int32 × Mm) ⊕ (Mm))} {q : Nat} (h : f_X10_parts_L54 a0 l1 l2 l3 l4 s54 = some x)  : mm_I (sm (fun (q : Int32 × Mm) => q.2) (fun (q : Mm) => q) x) q = mm_I ((fun (q : Int32 × Mm) => q.2) s54) q := by
  have hi : mm_I ((fun (q : Int32 × Mm) => q.2) s54) q = mm_I ((fun (q : Int32 × Mm) => q.2) s54) q := rfl
  have hp : mm_P ((fun (q : Int32 × Mm) => q.2) s54) = mm_P ((fun (q : Int32 × Mm) => q.2) s54) := rfl
  have r_a0 : rch (mm_P ((fun (q : Int32 × Mm) => q.2) s54)) a0 [] a0 := rfl
  rcases ite_e h with ⟨_, h⟩ | ⟨_, h⟩
  · have h := Option.some.inj h
    subst h
    exact hi
  · obtain ⟨x61, e61, h⟩ := bd h
    have r_x61 := rch_f r_a0 e61 hp
    obtain ⟨x73, e73, h⟩ := bd h
    obtain ⟨x77, e77, h⟩ := bd h
    have r_x77 := rch_f r_a0 e77 hp
    obtain ⟨x91, e91, h⟩ := bd h
    obtain ⟨x95, e95, h⟩ := bd h
    have r_x95 := rch_f r_a0 e95 hp
    obtain ⟨μ116, e116, h⟩ := bd h
    have hi := (ki_paL e116).trans hi
    have hp := (kp_paL e116).trans hp
    obtain ⟨v117, e117, h⟩ := bd h
    have h := Option.some.inj h
    subst h
    exact hi
theorem i_X10_parts_W54 {a0 : Nat} {l1 : Int32} {l2 : Int32} {l3 : Int32} {l4 : Int32} {s54 : Int32 × Mm} {b : Mm} {q : Nat} (h : whl (f_X10_parts_L54 a0 l1 l2 l3 l4) s54 = some b)  : mm_I ((fun (q : Mm) => q) b) q = mm_I ((fun (q : Int32 × Mm) => q.2) s54) q := by
  have key := whl_inv (P := fun s' => mm_I ((fun (q : Int32 × Mm) => q.2) s') q = mm_I ((fun (q : Int32 × Mm) => q.2) s54) q ∧ mm_P ((fun (q : Int32 × Mm) => q.2) s') = mm_P ((fun (q : Int32 × Mm) => q.2) s54)) (Q := fun b' => mm_I ((fun (q : Mm) => q) b') q = mm_I ((fun (q : Int32 × Mm) => q.2) s54) q) (fun s' x hs1 hx => ?_) ⟨rfl, rfl⟩ h
  · exact key
  · obtain ⟨h1, hP⟩ := hs1
    have k1 := (i_X10_parts_L54 hx ).trans h1
    have k2 := (p_X10_parts_L54 hx).trans hP
    cases x with
    | inl z => exact ⟨k1, k2⟩
    | inr z => exact k1
theorem i_X10_parts_L45 {a0 : Nat} {l1 : Int32} {l2 : Int32} {l3 : Int32} {s45 : Int32 × Mm} {x : ((Int32 × Mm) ⊕ (Mm))} {q : Nat} (h : f_X10_parts_L45 a0 l1 l2 l3 s45 = some x)  : mm_I (sm (fun (q : Int32 × Mm) => q.2) (fun (q : Mm) => q) x) q = mm_I ((fun (q : Int32 × Mm) => q.2) s45) q := by
  have hi : mm_I ((fun (q : Int32 × Mm) => q.2) s45) q = mm_I ((fun (q : Int32 × Mm) => q.2) s45) q := rfl
  have hp : mm_P ((fun (q : Int32 × Mm) => q.2) s45) = mm_P ((fun (q : Int32 × Mm) => q.2) s45) := rfl
  have r_a0 : rch (mm_P ((fun (q : Int32 × Mm) => q.2) s45)) a0 [] a0 := rfl
  rcases ite_e h with ⟨_, h⟩ | ⟨_, h⟩
  · have h := Option.some.inj h
    subst h
    exact hi
  · obtain ⟨b54, w54, h⟩ := bd h
    have hi := (i_X10_parts_W54 w54 ).trans hi
    have hp := (p_X10_parts_W54 w54).trans hp
    exact (i_X10_parts_J123 h ).trans hi
theorem i_X10_parts_W45 {a0 : Nat} {l1 : Int32} {l2 : Int32} {l3 : Int32} {s45 : Int32 × Mm} {b : Mm} {q : Nat} (h : whl (f_X10_parts_L45 a0 l1 l2 l3) s45 = some b)  : mm_I ((fun (q : Mm) => q) b) q = mm_I ((fun (q : Int32 × Mm) => q.2) s45) q := by
  have key := whl_inv (P := fun s' => mm_I ((fun (q : Int32 × Mm) => q.2) s') q = mm_I ((fun (q : Int32 × Mm) => q.2) s45) q ∧ mm_P ((fun (q : Int32 × Mm) => q.2) s') = mm_P ((fun (q : Int32 × Mm) => q.2) s45)) (Q := fun b' => mm_I ((fun (q : Mm) => q) b') q = mm_I ((fun (q : Int32 × Mm) => q.2) s45) q) (fun s' x hs1 hx => ?_) ⟨rfl, rfl⟩ h
  · exact key
  · obtain ⟨h1, hP⟩ := hs1
    have k1 := (i_X10_parts_L45 hx ).trans h1
    have k2 := (p_X10_parts_L45 hx).trans hP
    cases x with
    | inl z => exact ⟨k1, k2⟩
    | inr z => exact k1
theorem i_X10_parts {a0 : Nat} {l1 : Int32} {l2 : Int32} {μ : Mm} {x : (Int64 × Mm)} {q : Nat} (h : f_X10_parts a0 l1 l2 μ = some x)  : mm_I ((fun (q : (Int64 × Mm)) => q.2) x) q = mm_I μ q := by
  have hi : mm_I μ q = mm_I μ q := rfl
  have hp : mm_P μ = mm_P μ := rfl
  have r_a0 : rch (mm_P μ) a0 [] a0 := rfl
  obtain ⟨_, h⟩ := ite_p h
  rcases ite_e h with ⟨_, h⟩ | ⟨_, h⟩
  · have h := Option.some.inj h
    subst h
    exact hi
  · rcases ite_e h with ⟨_, h⟩ | ⟨_, h⟩
    · have h := Option.some.inj h
      subst h
      exact hi
    · rcases ite_e h with ⟨_, h⟩ | ⟨_, h⟩
      · have h := Option.some.inj h
        subst h
        exact hi
      · rcases ite_e h with ⟨_, h⟩ | ⟨_, h⟩
        · obtain ⟨x28, e28, h⟩ := bd h
          have r_x28 := rch_f r_a0 e28 hp
          obtain ⟨x32, e32, h⟩ := bd h
          have hi := (i_J7_fill_d0a16 e32 ).trans hi
          have hp := (p_J7_fill_d0a16 e32).trans hp
          obtain ⟨x36, e36, h⟩ := bd h
          have r_x36 := rch_f r_a0 e36 hp
          obtain ⟨μ41, e41, h⟩ := bd h
          have hi := (ki_paL e41).trans hi
          have hp := (kp_paL e41).trans hp
          obtain ⟨b45, w45, h⟩ := bd h
          have hi := (i_X10_parts_W45 w45 ).trans hi
          have hp := (p_X10_parts_W45 w45).trans hp
          exact (i_X10_parts_J129 h ).trans hi
        · have h := Option.some.inj h
          subst h
          exact hi
theorem i_X10_plan_J87 {a0 : Nat} {l1 : Int32} {l2 : Int32} {l3 : Int32} {μ : Mm} {x : ((Int32 × Int32 × Int32 × Mm) ⊕ (Int32 × Mm))} {q : Nat} (h : f_X10_plan_J87 a0 l1 l2 l3 μ = some x)  : mm_I ((sm (fun (q : Int32 × Int32 × Int32 × Mm) => q.2.2.2) (fun (q : Int32 × Mm) => q.2)) x) q = mm_I μ q := by
  have hi : mm_I μ q = mm_I μ q := rfl
  have hp : mm_P μ = mm_P μ := rfl
  have r_a0 : rch (mm_P μ) a0 [] a0 := rfl
  obtain ⟨v87, e87, h⟩ := bd h
  have h := Option.some.inj h
  subst h
  exact hi
theorem i_X10_plan_J82 {a0 : Nat} {l3 : Int32} {l4 : Int32} {μ : Mm} {x : ((Int32 × Int32 × Int32 × Mm) ⊕ (Int32 × Mm))} {q : Nat} (h : f_X10_plan_J82 a0 l3 l4 μ = some x)  : mm_I ((sm (fun (q : Int32 × Int32 × Int32 × Mm) => q.2.2.2) (fun (q : Int32 × Mm) => q.2)) x) q = mm_I μ q := by
  have hi : mm_I μ q = mm_I μ q := rfl
  have hp : mm_P μ = mm_P μ := rfl
  have r_a0 : rch (mm_P μ) a0 [] a0 := rfl
  exact (i_X10_plan_J87 h ).trans hi
theorem i_X10_plan_J63 {a0 : Nat} {l1 : Int32} {l2 : Int32} {l3 : Int32} {l4 : Int32} {k0 : Int32} {μ : Mm} {x : ((Int32 × Int32 × Int32 × Mm) ⊕ (Int32 × Mm))} {q : Nat} (h : f_X10_plan_J63 a0 l1 l2 l3 l4 k0 μ = some x)  : mm_I ((sm (fun (q : Int32 × Int32 × Int32 × Mm) => q.2.2.2) (fun (q : Int32 × Mm) => q.2)) x) q = mm_I μ q := by
  have hi : mm_I μ q = mm_I μ q := rfl
  have hp : mm_P μ = mm_P μ := rfl
  have r_a0 : rch (mm_P μ) a0 [] a0 := rfl
  rcases ite_e h with ⟨_, h⟩ | ⟨_, h⟩
  · exact (i_X10_plan_J82 h ).trans hi
  · rcases ite_e h with ⟨_, h⟩ | ⟨_, h⟩
    · rcases ite_e h with ⟨_, h⟩ | ⟨_, h⟩
      · exact (i_X10_plan_J87 h ).trans hi
      · exact (i_X10_plan_J82 h ).trans hi
    · exact (i_X10_plan_J87 h ).trans hi
theorem i_X10_plan_L24 {a0 : Nat} {s24 : Int32 × Int32 × Int32 × Mm} {x : ((Int32 × Int32 × Int32 × Mm) ⊕ (Int32 × Mm))} {q : Nat} (h : f_X10_plan_L24 a0 s24 = some x) (c_a0 : ∀ p ∈ ([[3]] : List (List Nat)), ¬ rch (mm_P ((fun (q : Int32 × Int32 × Int32 × Mm) => q.2.2.2) s24)) a0 p q) : mm_I (sm (fun (q : Int32 × Int32 × Int32 × Mm) => q.2.2.2) (fun (q : Int32 × Mm) => q.2) x) q = mm_I ((fun (q : Int32 × Int32 × Int32 × Mm) => q.2.2.2) s24) q := by
  have hi : mm_I ((fun (q : Int32 × Int32 × Int32 × Mm) => q.2.2.2) s24) q = mm_I ((fun (q : Int32 × Int32 × Int32 × Mm) => q.2.2.2) s24) q := rfl
  have hp : mm_P ((fun (q : Int32 × Int32 × Int32 × Mm) => q.2.2.2) s24) = mm_P ((fun (q : Int32 × Int32 × Int32 × Mm) => q.2.2.2) s24) := rfl
  have r_a0 : rch (mm_P ((fun (q : Int32 × Int32 × Int32 × Mm) => q.2.2.2) s24)) a0 [] a0 := rfl
  obtain ⟨x27, e27, h⟩ := bd h
  have r_x27 := rch_f r_a0 e27 hp
  obtain ⟨x30, e30, h⟩ := bd h
  rcases ite_e h with ⟨_, h⟩ | ⟨_, h⟩
  · have h := Option.some.inj h
    subst h
    exact hi
  · obtain ⟨x39, e39, h⟩ := bd h
    have hi := (i_X10_wishesMet e39 (rch_sub c_a0 r_a0 (by decide) hp)).trans hi
    have hp := (p_X10_wishesMet e39).trans hp
    obtain ⟨x42, e42, h⟩ := bd h
    obtain ⟨x48, e48, h⟩ := bd h
    obtain ⟨x52, e52, h⟩ := bd h
    rcases ite_e h with ⟨_, h⟩ | ⟨_, h⟩
    · exact (i_X10_plan_J63 h ).trans hi
    · exact (i_X10_plan_J63 h ).trans hi
theorem i_X10_plan_W24 {a0 : Nat} {s24 : Int32 × Int32 × Int32 × Mm} {b : Int32 × Mm} {q : Nat} (h : whl (f_X10_plan_L24 a0) s24 = some b) (c_a0 : ∀ p ∈ ([[3]] : List (List Nat)), ¬ rch (mm_P ((fun (q : Int32 × Int32 × Int32 × Mm) => q.2.2.2) s24)) a0 p q) : mm_I ((fun (q : Int32 × Mm) => q.2) b) q = mm_I ((fun (q : Int32 × Int32 × Int32 × Mm) => q.2.2.2) s24) q := by
  have key := whl_inv (P := fun s' => mm_I ((fun (q : Int32 × Int32 × Int32 × Mm) => q.2.2.2) s') q = mm_I ((fun (q : Int32 × Int32 × Int32 × Mm) => q.2.2.2) s24) q ∧ mm_P ((fun (q : Int32 × Int32 × Int32 × Mm) => q.2.2.2) s') = mm_P ((fun (q : Int32 × Int32 × Int32 × Mm) => q.2.2.2) s24)) (Q := fun b' => mm_I ((fun (q : Int32 × Mm) => q.2) b') q = mm_I ((fun (q : Int32 × Int32 × Int32 × Mm) => q.2.2.2) s24) q) (fun s' x hs1 hx => ?_) ⟨rfl, rfl⟩ h
  · exact key
  · obtain ⟨h1, hP⟩ := hs1
    have k1 := (i_X10_plan_L24 hx (fun p hp hr => c_a0 p hp (by rw [← hP]; exact hr))).trans h1
    have k2 := (p_X10_plan_L24 hx).trans hP
    cases x with
    | inl z => exact ⟨k1, k2⟩
    | inr z => exact k1
theorem i_X10_plan {a0 : Nat} {μ : Mm} {x : (Int32 × Mm)} {q : Nat} (h : f_X10_plan a0 μ = some x) (c_a0 : ∀ p ∈ ([[3], [3, 3], [3, 4]] : List (List Nat)), ¬ rch (mm_P μ) a0 p q) : mm_I ((fun (q : (Int32 × Mm)) => q.2) x) q = mm_I μ q := by
  have hi : mm_I μ q = mm_I μ q := rfl
  have hp : mm_P μ = mm_P μ := rfl
  have r_a0 : rch (mm_P μ) a0 [] a0 := rfl
  obtain ⟨_, h⟩ := ite_p h
  obtain ⟨x1, e1, h⟩ := bd h
  have r_x1 := rch_f r_a0 e1 hp
  obtain ⟨x5, e5, h⟩ := bd h
  obtain ⟨x8, e8, h⟩ := bd h
  have hi := (i_X4_setTurning e8 (rch_sub c_a0 r_x1 (by decide) hp)).trans hi
  have hp := (p_X4_setTurning e8).trans hp
  obtain ⟨x15, e15, h⟩ := bd h
  have hi := (i_X10_wishesMet e15 (rch_sub c_a0 r_a0 (by decide) hp)).trans hi
  have hp := (p_X10_wishesMet e15).trans hp
  obtain ⟨x18, e18, h⟩ := bd h
  obtain ⟨b24, w24, h⟩ := bd h
  have hi := (i_X10_plan_W24 w24 (rch_sub c_a0 r_a0 (by decide) hp)).trans hi
  have hp := (p_X10_plan_W24 w24).trans hp
  have h := Option.some.inj h
  subst h
  exact hi
theorem i_X0_addRight {a0 : Nat} {l1 : Int32} {l2 : Int32} {l3 : Int32} {μ : Mm} {x : (Int32 × Mm)} {q : Nat} (h : f_X0_addRight a0 l1 l2 l3 μ = some x) (c_a0 : ∀ p ∈ ([[], [5], [6], [7]] : List (List Nat)), ¬ rch (mm_P μ) a0 p q) : mm_I ((fun (q : (Int32 × Mm)) => q.2) x) q = mm_I μ q := by
  have hi : mm_I μ q = mm_I μ q := rfl
  have hp : mm_P μ = mm_P μ := rfl
  have r_a0 : rch (mm_P μ) a0 [] a0 := rfl
  obtain ⟨_, h⟩ := ite_p h
  obtain ⟨x1, e1, h⟩ := bd h
  rcases ite_e h with ⟨_, h⟩ | ⟨_, h⟩
  · have h := Option.some.inj h
    subst h
    exact hi
  · obtain ⟨μ12, e12, h⟩ := bd h
    have hi := (ki_pfI e12 (rch_ne c_a0 (by decide) r_a0)).trans hi
    have hp := (kp_pfI e12).trans hp
    obtain ⟨x16, e16, h⟩ := bd h
    have r_x16 := rch_f r_a0 e16 hp
    obtain ⟨x20, e20, h⟩ := bd h
    obtain ⟨μ24, e24, h⟩ := bd h
    have hi := (ki_paI e24 (rch_ne c_a0 (by decide) r_x16)).trans hi
    have hp := (kp_paI e24).trans hp
    obtain ⟨x26, e26, h⟩ := bd h
    have r_x26 := rch_f r_a0 e26 hp
    obtain ⟨x30, e30, h⟩ := bd h
    obtain ⟨μ34, e34, h⟩ := bd h
    have hi := (ki_paI e34 (rch_ne c_a0 (by decide) r_x26)).trans hi
    have hp := (kp_paI e34).trans hp
    obtain ⟨x36, e36, h⟩ := bd h
    have r_x36 := rch_f r_a0 e36 hp
    obtain ⟨x40, e40, h⟩ := bd h
    obtain ⟨μ44, e44, h⟩ := bd h
    have hi := (ki_paI e44 (rch_ne c_a0 (by decide) r_x36)).trans hi
    have hp := (kp_paI e44).trans hp
    obtain ⟨x47, e47, h⟩ := bd h
    obtain ⟨μ52, e52, h⟩ := bd h
    have hi := (ki_pfI e52 (rch_ne c_a0 (by decide) r_a0)).trans hi
    have hp := (kp_pfI e52).trans hp
    obtain ⟨b61, w61, h⟩ := bd h
    have h := Option.some.inj h
    subst h
    exact hi
theorem i_X10_right {a0 : Nat} {l1 : Int32} {l2 : Int32} {l3 : Int32} {μ : Mm} {x : (Int32 × Mm)} {q : Nat} (h : f_X10_right a0 l1 l2 l3 μ = some x) (c_a0 : ∀ p ∈ ([[4], [4, 5], [4, 6], [4, 7], [5]] : List (List Nat)), ¬ rch (mm_P μ) a0 p q) : mm_I ((fun (q : (Int32 × Mm)) => q.2) x) q = mm_I μ q := by
  have hi : mm_I μ q = mm_I μ q := rfl
  have hp : mm_P μ = mm_P μ := rfl
  have r_a0 : rch (mm_P μ) a0 [] a0 := rfl
  obtain ⟨_, h⟩ := ite_p h
  obtain ⟨x1, e1, h⟩ := bd h
  have r_x1 := rch_f r_a0 e1 hp
  obtain ⟨x6, e6, h⟩ := bd h
  rcases ite_e h with ⟨_, h⟩ | ⟨_, h⟩
  · have h := Option.some.inj h
    subst h
    exact hi
  · rcases ite_e h with ⟨_, h⟩ | ⟨_, h⟩
    · have h := Option.some.inj h
      subst h
      exact hi
    · obtain ⟨x18, e18, h⟩ := bd h
      have r_x18 := rch_f r_a0 e18 hp
      obtain ⟨x21, e21, h⟩ := bd h
      rcases ite_e h with ⟨_, h⟩ | ⟨_, h⟩
      · obtain ⟨x31, e31, h⟩ := bd h
        have r_x31 := rch_f r_a0 e31 hp
        obtain ⟨x34, e34, h⟩ := bd h
        rcases ite_e h with ⟨_, h⟩ | ⟨_, h⟩
        · have h := Option.some.inj h
          subst h
          exact hi
        · obtain ⟨x44, e44, h⟩ := bd h
          have r_x44 := rch_f r_a0 e44 hp
          obtain ⟨μ48, e48, h⟩ := bd h
          have hi := (ki_pfZ e48 (rch_ne c_a0 (by decide) r_x44)).trans hi
          have hp := (kp_pfZ e48).trans hp
          obtain ⟨x52, e52, h⟩ := bd h
          have r_x52 := rch_f r_a0 e52 hp
          obtain ⟨x58, e58, h⟩ := bd h
          have hi := (i_X0_addRight e58 (rch_sub c_a0 r_x52 (by decide) hp)).trans hi
          have hp := (p_X0_addRight e58).trans hp
          have h := Option.some.inj h
          subst h
          exact hi
      · have h := Option.some.inj h
        subst h
        exact hi
theorem i_X10_ringsOnTape_J75 {a0 : Nat} {l1 : Int32} {l2 : Int32} {k0 : Int32} {μ : Mm} {x : ((Int32 × Int32 × Mm) ⊕ ((Int32 × Mm) ⊕ ((Mm) ⊕ (Mm))))} {q : Nat} (h : f_X10_ringsOnTape_J75 a0 l1 l2 k0 μ = some x) (c_a0 : ∀ p ∈ ([[11]] : List (List Nat)), ¬ rch (mm_P μ) a0 p q) : mm_I ((sm (fun (q : Int32 × Int32 × Mm) => q.2.2) (sm (fun (q : Int32 × Mm) => q.2) (sm (fun (q : Mm) => q) (fun (q : Mm) => q)))) x) q = mm_I μ q := by
  have hi : mm_I μ q = mm_I μ q := rfl
  have hp : mm_P μ = mm_P μ := rfl
  have r_a0 : rch (mm_P μ) a0 [] a0 := rfl
  rcases ite_e h with ⟨_, h⟩ | ⟨_, h⟩
  · have h := Option.some.inj h
    subst h
    exact hi
  · obtain ⟨x81, e81, h⟩ := bd h
    have r_x81 := rch_f r_a0 e81 hp
    obtain ⟨x84, e84, h⟩ := bd h
    rcases ite_e h with ⟨_, h⟩ | ⟨_, h⟩
    · obtain ⟨x100, e100, h⟩ := bd h
      have r_x100 := rch_f r_a0 e100 hp
      obtain ⟨x103, e103, h⟩ := bd h
      obtain ⟨v107, e107, h⟩ := bd h
      obtain ⟨x109, e109, h⟩ := bd h
      have r_x109 := rch_f r_a0 e109 hp
      obtain ⟨x113, e113, h⟩ := bd h
      have r_x113 := rch_f r_a0 e113 hp
      obtain ⟨x116, e116, h⟩ := bd h
      obtain ⟨x120, e120, h⟩ := bd h
      obtain ⟨μ123, e123, h⟩ := bd h
      have hi := (ki_paI e123 (rch_ne c_a0 (by decide) r_x109)).trans hi
      have hp := (kp_paI e123).trans hp
      obtain ⟨v124, e124, h⟩ := bd h
      have h := Option.some.inj h
      subst h
      exact hi
    · have h := Option.some.inj h
      subst h
      exact hi
theorem i_X10_ringsOnTape_J74 {a0 : Nat} {l1 : Int32} {l2 : Int32} {μ : Mm} {x : ((Int32 × Int32 × Mm) ⊕ ((Int32 × Mm) ⊕ ((Mm) ⊕ (Mm))))} {q : Nat} (h : f_X10_ringsOnTape_J74 a0 l1 l2 μ = some x) (c_a0 : ∀ p ∈ ([[11]] : List (List Nat)), ¬ rch (mm_P μ) a0 p q) : mm_I ((sm (fun (q : Int32 × Int32 × Mm) => q.2.2) (sm (fun (q : Int32 × Mm) => q.2) (sm (fun (q : Mm) => q) (fun (q : Mm) => q)))) x) q = mm_I μ q := by
  have hi : mm_I μ q = mm_I μ q := rfl
  have hp : mm_P μ = mm_P μ := rfl
  have r_a0 : rch (mm_P μ) a0 [] a0 := rfl
  exact (i_X10_ringsOnTape_J75 h (rch_sub c_a0 r_a0 (by decide) hp)).trans hi
theorem i_X10_ringsOnTape_J42 {a0 : Nat} {l1 : Int32} {μ : Mm} {x : (Int64 × Mm)} {q : Nat} (h : f_X10_ringsOnTape_J42 a0 l1 μ = some x)  : mm_I ((fun (q : (Int64 × Mm)) => q.2) x) q = mm_I μ q := by
  have hi : mm_I μ q = mm_I μ q := rfl
  have hp : mm_P μ = mm_P μ := rfl
  have r_a0 : rch (mm_P μ) a0 [] a0 := rfl
  obtain ⟨x44, e44, h⟩ := bd h
  have h := Option.some.inj h
  subst h
  exact hi
theorem i_X10_ringsOnTape_L19 {a0 : Nat} {s19 : Int32 × Int32 × Mm} {x : ((Int32 × Int32 × Mm) ⊕ ((Int32 × Mm) ⊕ ((Mm) ⊕ (Mm))))} {q : Nat} (h : f_X10_ringsOnTape_L19 a0 s19 = some x) (c_a0 : ∀ p ∈ ([[1], [11]] : List (List Nat)), ¬ rch (mm_P ((fun (q : Int32 × Int32 × Mm) => q.2.2) s19)) a0 p q) : mm_I (sm (fun (q : Int32 × Int32 × Mm) => q.2.2) (sm (fun (q : Int32 × Mm) => q.2) (sm (fun (q : Mm) => q) (fun (q : Mm) => q))) x) q = mm_I ((fun (q : Int32 × Int32 × Mm) => q.2.2) s19) q := by
  have hi : mm_I ((fun (q : Int32 × Int32 × Mm) => q.2.2) s19) q = mm_I ((fun (q : Int32 × Int32 × Mm) => q.2.2) s19) q := rfl
  have hp : mm_P ((fun (q : Int32 × Int32 × Mm) => q.2.2) s19) = mm_P ((fun (q : Int32 × Int32 × Mm) => q.2.2) s19) := rfl
  have r_a0 : rch (mm_P ((fun (q : Int32 × Int32 × Mm) => q.2.2) s19)) a0 [] a0 := rfl
  rcases ite_e h with ⟨_, h⟩ | ⟨_, h⟩
  · have h := Option.some.inj h
    subst h
    exact hi
  · obtain ⟨x26, e26, h⟩ := bd h
    have r_x26 := rch_f r_a0 e26 hp
    obtain ⟨x29, e29, h⟩ := bd h
    have hi := (i_X6_advance e29 (rch_sub c_a0 r_x26 (by decide) hp)).trans hi
    have hp := (p_X6_advance e29).trans hp
    obtain ⟨x33, e33, h⟩ := bd h
    have r_x33 := rch_f r_a0 e33 hp
    obtain ⟨x36, e36, h⟩ := bd h
    rcases ite_e h with ⟨_, h⟩ | ⟨_, h⟩
    · have h := Option.some.inj h
      subst h
      exact hi
    · obtain ⟨x49, e49, h⟩ := bd h
      have r_x49 := rch_f r_a0 e49 hp
      obtain ⟨x52, e52, h⟩ := bd h
      rcases ite_e h with ⟨_, h⟩ | ⟨_, h⟩
      · obtain ⟨x60, e60, h⟩ := bd h
        have r_x60 := rch_f r_a0 e60 hp
        obtain ⟨x63, e63, h⟩ := bd h
        rcases ite_e h with ⟨_, h⟩ | ⟨_, h⟩
        · exact (i_X10_ringsOnTape_J74 h (rch_sub c_a0 r_a0 (by decide) hp)).trans hi
        · exact (i_X10_ringsOnTape_J75 h (rch_sub c_a0 r_a0 (by decide) hp)).trans hi
      · exact (i_X10_ringsOnTape_J74 h (rch_sub c_a0 r_a0 (by decide) hp)).trans hi
theorem i_X10_ringsOnTape_W19 {a0 : Nat} {s19 : Int32 × Int32 × Mm} {b : (Int32 × Mm) ⊕ ((Mm) ⊕ (Mm))} {q : Nat} (h : whl (f_X10_ringsOnTape_L19 a0) s19 = some b) (c_a0 : ∀ p ∈ ([[1], [11]] : List (List Nat)), ¬ rch (mm_P ((fun (q : Int32 × Int32 × Mm) => q.2.2) s19)) a0 p q) : mm_I ((sm (fun (q : Int32 × Mm) => q.2) (sm (fun (q : Mm) => q) (fun (q : Mm) => q))) b) q = mm_I ((fun (q : Int32 × Int32 × Mm) => q.2.2) s19) q := by
  have key := whl_inv (P := fun s' => mm_I ((fun (q : Int32 × Int32 × Mm) => q.2.2) s') q = mm_I ((fun (q : Int32 × Int32 × Mm) => q.2.2) s19) q ∧ mm_P ((fun (q : Int32 × Int32 × Mm) => q.2.2) s') = mm_P ((fun (q : Int32 × Int32 × Mm) => q.2.2) s19)) (Q := fun b' => mm_I ((sm (fun (q : Int32 × Mm) => q.2) (sm (fun (q : Mm) => q) (fun (q : Mm) => q))) b') q = mm_I ((fun (q : Int32 × Int32 × Mm) => q.2.2) s19) q) (fun s' x hs1 hx => ?_) ⟨rfl, rfl⟩ h
  · exact key
  · obtain ⟨h1, hP⟩ := hs1
    have k1 := (i_X10_ringsOnTape_L19 hx (fun p hp hr => c_a0 p hp (by rw [← hP]; exact hr))).trans h1
    have k2 := (p_X10_ringsOnTape_L19 hx).trans hP
    cases x with
    | inl z => exact ⟨k1, k2⟩
    | inr z => exact k1
theorem i_X10_ringsOnTape {a0 : Nat} {μ : Mm} {x : (Int64 × Mm)} {q : Nat} (h : f_X10_ringsOnTape a0 μ = some x) (c_a0 : ∀ p ∈ ([[1], [11]] : List (List Nat)), ¬ rch (mm_P μ) a0 p q) : mm_I ((fun (q : (Int64 × Mm)) => q.2) x) q = mm_I μ q := by
  have hi : mm_I μ q = mm_I μ q := rfl
  have hp : mm_P μ = mm_P μ := rfl
  have r_a0 : rch (mm_P μ) a0 [] a0 := rfl
  obtain ⟨_, h⟩ := ite_p h
  obtain ⟨x1, e1, h⟩ := bd h
  have r_x1 := rch_f r_a0 e1 hp
  obtain ⟨x5, e5, h⟩ := bd h
  have hi := (i_J7_fill_53178 e5 (rch_sub c_a0 r_x1 (by decide) hp)).trans hi
  have hp := (p_J7_fill_53178 e5).trans hp
  obtain ⟨x9, e9, h⟩ := bd h
  have r_x9 := rch_f r_a0 e9 hp
  obtain ⟨x12, e12, h⟩ := bd h
  have hi := (i_X6_rewind e12 (rch_sub c_a0 r_x9 (by decide) hp)).trans hi
  have hp := (p_X6_rewind e12).trans hp
  obtain ⟨b19, w19, h⟩ := bd h
  have hi := (i_X10_ringsOnTape_W19 w19 (rch_sub c_a0 r_a0 (by decide) hp)).trans hi
  have hp := (p_X10_ringsOnTape_W19 w19).trans hp
  rcases b19 with b19 | b19
  · exact (i_X10_ringsOnTape_J42 h ).trans hi
  · rcases b19 with b19 | b19
    · have h := Option.some.inj h
      subst h
      exact hi
    · have h := Option.some.inj h
      subst h
      exact hi
theorem i_X10_rings {a0 : Nat} {μ : Mm} {x : (Int64 × Mm)} {q : Nat} (h : f_X10_rings a0 μ = some x) (c_a0 : ∀ p ∈ ([[0], [1], [11]] : List (List Nat)), ¬ rch (mm_P μ) a0 p q) : mm_I ((fun (q : (Int64 × Mm)) => q.2) x) q = mm_I μ q := by
  have hi : mm_I μ q = mm_I μ q := rfl
  have hp : mm_P μ = mm_P μ := rfl
  have r_a0 : rch (mm_P μ) a0 [] a0 := rfl
  obtain ⟨_, h⟩ := ite_p h
  obtain ⟨x1, e1, h⟩ := bd h
  have hi := (i_X10_ringsOnTape e1 (rch_sub c_a0 r_a0 (by decide) hp)).trans hi
  have hp := (p_X10_ringsOnTape e1).trans hp
  obtain ⟨x6, e6, h⟩ := bd h
  have r_x6 := rch_f r_a0 e6 hp
  obtain ⟨μ10, e10, h⟩ := bd h
  have hi := (ki_pfI e10 (rch_ne c_a0 (by decide) r_x6)).trans hi
  have hp := (kp_pfI e10).trans hp
  have h := Option.some.inj h
  subst h
  exact hi
theorem i_X10_said {a0 : Nat} {l1 : Int32} {l2 : Int32} {l3 : Int32} {μ : Mm} {x : (Int32 × Mm)} {q : Nat} (h : f_X10_said a0 l1 l2 l3 μ = some x) (c_a0 : ∀ p ∈ ([[], [8]] : List (List Nat)), ¬ rch (mm_P μ) a0 p q) : mm_I ((fun (q : (Int32 × Mm)) => q.2) x) q = mm_I μ q := by
  have hi : mm_I μ q = mm_I μ q := rfl
  have hp : mm_P μ = mm_P μ := rfl
  have r_a0 : rch (mm_P μ) a0 [] a0 := rfl
  obtain ⟨_, h⟩ := ite_p h
  obtain ⟨x1, e1, h⟩ := bd h
  have r_x1 := rch_f r_a0 e1 hp
  obtain ⟨x5, e5, h⟩ := bd h
  rcases ite_e h with ⟨_, h⟩ | ⟨_, h⟩
  · have h := Option.some.inj h
    subst h
    exact hi
  · obtain ⟨x12, e12, h⟩ := bd h
    have r_x12 := rch_f r_a0 e12 hp
    obtain ⟨x16, e16, h⟩ := bd h
    rcases ite_e h with ⟨_, h⟩ | ⟨_, h⟩
    · have h := Option.some.inj h
      subst h
      exact hi
    · obtain ⟨x23, e23, h⟩ := bd h
      rcases ite_e h with ⟨_, h⟩ | ⟨_, h⟩
      · have h := Option.some.inj h
        subst h
        exact hi
      · rcases ite_e h with ⟨_, h⟩ | ⟨_, h⟩
        · have h := Option.some.inj h
          subst h
          exact hi
        · obtain ⟨x46, e46, h⟩ := bd h
          have hi := (i_X10_sendSign e46 (rch_sub c_a0 r_a0 (by decide) hp)).trans hi
          have hp := (p_X10_sendSign e46).trans hp
          have h := Option.some.inj h
          subst h
          exact hi
theorem i_X10_practise_J164 {a0 : Nat} {l2 : Int32} {l3 : Int32} {k0 : Nat} {k1 : Int32} {k2 : Int32} {μ : Mm} {x : ((Int32 × Mm) ⊕ (Mm))} {q : Nat} (h : f_X10_practise_J164 a0 l2 l3 k0 k1 k2 μ = some x) (c_k0 : ∀ p ∈ ([[]] : List (List Nat)), ¬ rch (mm_P μ) k0 p q) : mm_I ((sm (fun (q : Int32 × Mm) => q.2) (fun (q : Mm) => q)) x) q = mm_I μ q := by
  have hi : mm_I μ q = mm_I μ q := rfl
  have hp : mm_P μ = mm_P μ := rfl
  have r_a0 : rch (mm_P μ) a0 [] a0 := rfl
  have r_k0 : rch (mm_P μ) k0 [] k0 := rfl
  obtain ⟨μ164, e164, h⟩ := bd h
  have hi := (ki_paI e164 (rch_ne c_k0 (by decide) r_k0)).trans hi
  have hp := (kp_paI e164).trans hp
  obtain ⟨v165, e165, h⟩ := bd h
  have h := Option.some.inj h
  subst h
  exact hi
theorem i_X10_practise_J134 {a0 : Nat} {l2 : Int32} {l3 : Int32} {l4 : Int32} {k0 : Int32} {μ : Mm} {x : ((Int32 × Mm) ⊕ (Mm))} {q : Nat} (h : f_X10_practise_J134 a0 l2 l3 l4 k0 μ = some x) (c_a0 : ∀ p ∈ ([[9]] : List (List Nat)), ¬ rch (mm_P μ) a0 p q) : mm_I ((sm (fun (q : Int32 × Mm) => q.2) (fun (q : Mm) => q)) x) q = mm_I μ q := by
  have hi : mm_I μ q = mm_I μ q := rfl
  have hp : mm_P μ = mm_P μ := rfl
  have r_a0 : rch (mm_P μ) a0 [] a0 := rfl
  obtain ⟨x137, e137, h⟩ := bd h
  have r_x137 := rch_f r_a0 e137 hp
  rcases ite_e h with ⟨_, h⟩ | ⟨_, h⟩
  · exact (i_X10_practise_J164 h (rch_sub c_a0 r_x137 (by decide) hp)).trans hi
  · exact (i_X10_practise_J164 h (rch_sub c_a0 r_x137 (by decide) hp)).trans hi
theorem i_X10_practise_J113 {a0 : Nat} {l2 : Int32} {l3 : Int32} {l4 : Int32} {l5 : Int32} {k0 : Int32} {μ : Mm} {x : ((Int32 × Mm) ⊕ (Mm))} {q : Nat} (h : f_X10_practise_J113 a0 l2 l3 l4 l5 k0 μ = some x) (c_a0 : ∀ p ∈ ([[9]] : List (List Nat)), ¬ rch (mm_P μ) a0 p q) : mm_I ((sm (fun (q : Int32 × Mm) => q.2) (fun (q : Mm) => q)) x) q = mm_I μ q := by
  have hi : mm_I μ q = mm_I μ q := rfl
  have hp : mm_P μ = mm_P μ := rfl
  have r_a0 : rch (mm_P μ) a0 [] a0 := rfl
  rcases ite_e h with ⟨_, h⟩ | ⟨_, h⟩
  · exact (i_X10_practise_J134 h (rch_sub c_a0 r_a0 (by decide) hp)).trans hi
  · obtain ⟨x121, e121, h⟩ := bd h
    have r_x121 := rch_f r_a0 e121 hp
    obtain ⟨x126, e126, h⟩ := bd h
    exact (i_X10_practise_J134 h (rch_sub c_a0 r_a0 (by decide) hp)).trans hi
theorem i_X10_practise_J112 {a0 : Nat} {l2 : Int32} {l3 : Int32} {l4 : Int32} {l5 : Int32} {μ : Mm} {x : ((Int32 × Mm) ⊕ (Mm))} {q : Nat} (h : f_X10_practise_J112 a0 l2 l3 l4 l5 μ = some x) (c_a0 : ∀ p ∈ ([[9]] : List (List Nat)), ¬ rch (mm_P μ) a0 p q) : mm_I ((sm (fun (q : Int32 × Mm) => q.2) (fun (q : Mm) => q)) x) q = mm_I μ q := by
  have hi : mm_I μ q = mm_I μ q := rfl
  have hp : mm_P μ = mm_P μ := rfl
  have r_a0 : rch (mm_P μ) a0 [] a0 := rfl
  exact (i_X10_practise_J113 h (rch_sub c_a0 r_a0 (by decide) hp)).trans hi
theorem i_X10_practise_L58 {a0 : Nat} {l2 : Int32} {s58 : Int32 × Mm} {x : ((Int32 × Mm) ⊕ (Mm))} {q : Nat} (h : f_X10_practise_L58 a0 l2 s58 = some x) (c_a0 : ∀ p ∈ ([[9]] : List (List Nat)), ¬ rch (mm_P ((fun (q : Int32 × Mm) => q.2) s58)) a0 p q) : mm_I (sm (fun (q : Int32 × Mm) => q.2) (fun (q : Mm) => q) x) q = mm_I ((fun (q : Int32 × Mm) => q.2) s58) q := by
  have hi : mm_I ((fun (q : Int32 × Mm) => q.2) s58) q = mm_I ((fun (q : Int32 × Mm) => q.2) s58) q := rfl
  have hp : mm_P ((fun (q : Int32 × Mm) => q.2) s58) = mm_P ((fun (q : Int32 × Mm) => q.2) s58) := rfl
  have r_a0 : rch (mm_P ((fun (q : Int32 × Mm) => q.2) s58)) a0 [] a0 := rfl
  obtain ⟨x60, e60, h⟩ := bd h
  have r_x60 := rch_f r_a0 e60 hp
  obtain ⟨x63, e63, h⟩ := bd h
  rcases ite_e h with ⟨_, h⟩ | ⟨_, h⟩
  · have h := Option.some.inj h
    subst h
    exact hi
  · obtain ⟨x70, e70, h⟩ := bd h
    have r_x70 := rch_f r_a0 e70 hp
    obtain ⟨x74, e74, h⟩ := bd h
    obtain ⟨x78, e78, h⟩ := bd h
    obtain ⟨x82, e82, h⟩ := bd h
    obtain ⟨x88, e88, h⟩ := bd h
    have r_x88 := rch_f r_a0 e88 hp
    obtain ⟨x93, e93, h⟩ := bd h
    rcases ite_e h with ⟨_, h⟩ | ⟨_, h⟩
    · exact (i_X10_practise_J112 h (rch_sub c_a0 r_a0 (by decide) hp)).trans hi
    · rcases ite_e h with ⟨_, h⟩ | ⟨_, h⟩
      · exact (i_X10_practise_J113 h (rch_sub c_a0 r_a0 (by decide) hp)).trans hi
      · exact (i_X10_practise_J112 h (rch_sub c_a0 r_a0 (by decide) hp)).trans hi
theorem i_X10_practise_W58 {a0 : Nat} {l2 : Int32} {s58 : Int32 × Mm} {b : Mm} {q : Nat} (h : whl (f_X10_practise_L58 a0 l2) s58 = some b) (c_a0 : ∀ p ∈ ([[9]] : List (List Nat)), ¬ rch (mm_P ((fun (q : Int32 × Mm) => q.2) s58)) a0 p q) : mm_I ((fun (q : Mm) => q) b) q = mm_I ((fun (q : Int32 × Mm) => q.2) s58) q := by
  have key := whl_inv (P := fun s' => mm_I ((fun (q : Int32 × Mm) => q.2) s') q = mm_I ((fun (q : Int32 × Mm) => q.2) s58) q ∧ mm_P ((fun (q : Int32 × Mm) => q.2) s') = mm_P ((fun (q : Int32 × Mm) => q.2) s58)) (Q := fun b' => mm_I ((fun (q : Mm) => q) b') q = mm_I ((fun (q : Int32 × Mm) => q.2) s58) q) (fun s' x hs1 hx => ?_) ⟨rfl, rfl⟩ h
  · exact key
  · obtain ⟨h1, hP⟩ := hs1
    have k1 := (i_X10_practise_L58 hx (fun p hp hr => c_a0 p hp (by rw [← hP]; exact hr))).trans h1
    have k2 := (p_X10_practise_L58 hx).trans hP
    cases x with
    | inl z => exact ⟨k1, k2⟩
    | inr z => exact k1
theorem i_X10_practise_J56 {a0 : Nat} {l2 : Int32} {μ : Mm} {x : Mm} {q : Nat} (h : f_X10_practise_J56 a0 l2 μ = some x) (c_a0 : ∀ p ∈ ([[9]] : List (List Nat)), ¬ rch (mm_P μ) a0 p q) : mm_I ((fun (q : Mm) => q) x) q = mm_I μ q := by
  have hi : mm_I μ q = mm_I μ q := rfl
  have hp : mm_P μ = mm_P μ := rfl
  have r_a0 : rch (mm_P μ) a0 [] a0 := rfl
  obtain ⟨b58, w58, h⟩ := bd h
  have hi := (i_X10_practise_W58 w58 (rch_sub c_a0 r_a0 (by decide) hp)).trans hi
  have hp := (p_X10_practise_W58 w58).trans hp
  have h := Option.some.inj h
  subst h
  exact hi
theorem i_X10_practise_L11 {a0 : Nat} {l2 : Int32} {s11 : Int32 × Mm} {x : ((Int32 × Mm) ⊕ (Mm))} {q : Nat} (h : f_X10_practise_L11 a0 l2 s11 = some x) (c_a0 : ∀ p ∈ ([[10]] : List (List Nat)), ¬ rch (mm_P ((fun (q : Int32 × Mm) => q.2) s11)) a0 p q) : mm_I (sm (fun (q : Int32 × Mm) => q.2) (fun (q : Mm) => q) x) q = mm_I ((fun (q : Int32 × Mm) => q.2) s11) q := by
  have hi : mm_I ((fun (q : Int32 × Mm) => q.2) s11) q = mm_I ((fun (q : Int32 × Mm) => q.2) s11) q := rfl
  have hp : mm_P ((fun (q : Int32 × Mm) => q.2) s11) = mm_P ((fun (q : Int32 × Mm) => q.2) s11) := rfl
  have r_a0 : rch (mm_P ((fun (q : Int32 × Mm) => q.2) s11)) a0 [] a0 := rfl
  obtain ⟨x13, e13, h⟩ := bd h
  have r_x13 := rch_f r_a0 e13 hp
  obtain ⟨x16, e16, h⟩ := bd h
  rcases ite_e h with ⟨_, h⟩ | ⟨_, h⟩
  · have h := Option.some.inj h
    subst h
    exact hi
  · obtain ⟨x23, e23, h⟩ := bd h
    have r_x23 := rch_f r_a0 e23 hp
    obtain ⟨x31, e31, h⟩ := bd h
    have r_x31 := rch_f r_a0 e31 hp
    obtain ⟨x35, e35, h⟩ := bd h
    obtain ⟨x37, e37, h⟩ := bd h
    have r_x37 := rch_f r_a0 e37 hp
    obtain ⟨x40, e40, h⟩ := bd h
    have r_x40 := rch_f r_x37 e40 hp
    obtain ⟨x44, e44, h⟩ := bd h
    obtain ⟨μ49, e49, h⟩ := bd h
    have hi := (ki_paI e49 (rch_ne c_a0 (by decide) r_x23)).trans hi
    have hp := (kp_paI e49).trans hp
    obtain ⟨v50, e50, h⟩ := bd h
    have h := Option.some.inj h
    subst h
    exact hi
theorem i_X10_practise_W11 {a0 : Nat} {l2 : Int32} {s11 : Int32 × Mm} {b : Mm} {q : Nat} (h : whl (f_X10_practise_L11 a0 l2) s11 = some b) (c_a0 : ∀ p ∈ ([[10]] : List (List Nat)), ¬ rch (mm_P ((fun (q : Int32 × Mm) => q.2) s11)) a0 p q) : mm_I ((fun (q : Mm) => q) b) q = mm_I ((fun (q : Int32 × Mm) => q.2) s11) q := by
  have key := whl_inv (P := fun s' => mm_I ((fun (q : Int32 × Mm) => q.2) s') q = mm_I ((fun (q : Int32 × Mm) => q.2) s11) q ∧ mm_P ((fun (q : Int32 × Mm) => q.2) s') = mm_P ((fun (q : Int32 × Mm) => q.2) s11)) (Q := fun b' => mm_I ((fun (q : Mm) => q) b') q = mm_I ((fun (q : Int32 × Mm) => q.2) s11) q) (fun s' x hs1 hx => ?_) ⟨rfl, rfl⟩ h
  · exact key
  · obtain ⟨h1, hP⟩ := hs1
    have k1 := (i_X10_practise_L11 hx (fun p hp hr => c_a0 p hp (by rw [← hP]; exact hr))).trans h1
    have k2 := (p_X10_practise_L11 hx).trans hP
    cases x with
    | inl z => exact ⟨k1, k2⟩
    | inr z => exact k1
theorem i_X10_practise {a0 : Nat} {l1 : Int32} {μ : Mm} {x : Mm} {q : Nat} (h : f_X10_practise a0 l1 μ = some x) (c_a0 : ∀ p ∈ ([[9], [10]] : List (List Nat)), ¬ rch (mm_P μ) a0 p q) : mm_I ((fun (q : Mm) => q) x) q = mm_I μ q := by
  have hi : mm_I μ q = mm_I μ q := rfl
  have hp : mm_P μ = mm_P μ := rfl
  have r_a0 : rch (mm_P μ) a0 [] a0 := rfl
  obtain ⟨_, h⟩ := ite_p h
  obtain ⟨x1, e1, h⟩ := bd h
  have r_x1 := rch_f r_a0 e1 hp
  obtain ⟨x5, e5, h⟩ := bd h
  obtain ⟨b11, w11, h⟩ := bd h
  have hi := (i_X10_practise_W11 w11 (rch_sub c_a0 r_a0 (by decide) hp)).trans hi
  have hp := (p_X10_practise_W11 w11).trans hp
  exact (i_X10_practise_J56 h (rch_sub c_a0 r_a0 (by decide) hp)).trans hi
theorem i_X10_skill_J53 {a0 : Nat} {l1 : Int32} {μ : Mm} {x : (Int32 × Mm)} {q : Nat} (h : f_X10_skill_J53 a0 l1 μ = some x)  : mm_I ((fun (q : (Int32 × Mm)) => q.2) x) q = mm_I μ q := by
  have hi : mm_I μ q = mm_I μ q := rfl
  have hp : mm_P μ = mm_P μ := rfl
  have r_a0 : rch (mm_P μ) a0 [] a0 := rfl
  obtain ⟨x54, e54, h⟩ := bd h
  have r_x54 := rch_f r_a0 e54 hp
  obtain ⟨x58, e58, h⟩ := bd h
  have h := Option.some.inj h
  subst h
  exact hi
theorem i_X10_skill_L31 {a0 : Nat} {l1 : Int32} {l2 : Int32} {s31 : Int32 × Mm} {x : ((Int32 × Mm) ⊕ (Mm))} {q : Nat} (h : f_X10_skill_L31 a0 l1 l2 s31 = some x) (c_a0 : ∀ p ∈ ([[9], [10]] : List (List Nat)), ¬ rch (mm_P ((fun (q : Int32 × Mm) => q.2) s31)) a0 p q) : mm_I (sm (fun (q : Int32 × Mm) => q.2) (fun (q : Mm) => q) x) q = mm_I ((fun (q : Int32 × Mm) => q.2) s31) q := by
  have hi : mm_I ((fun (q : Int32 × Mm) => q.2) s31) q = mm_I ((fun (q : Int32 × Mm) => q.2) s31) q := rfl
  have hp : mm_P ((fun (q : Int32 × Mm) => q.2) s31) = mm_P ((fun (q : Int32 × Mm) => q.2) s31) := rfl
  have r_a0 : rch (mm_P ((fun (q : Int32 × Mm) => q.2) s31)) a0 [] a0 := rfl
  rcases ite_e h with ⟨_, h⟩ | ⟨_, h⟩
  · have h := Option.some.inj h
    subst h
    exact hi
  · rcases ite_e h with ⟨_, h⟩ | ⟨_, h⟩
    · have h := Option.some.inj h
      subst h
      exact hi
    · obtain ⟨x44, e44, h⟩ := bd h
      have hi := (i_X10_practise e44 (rch_sub c_a0 r_a0 (by decide) hp)).trans hi
      have hp := (p_X10_practise e44).trans hp
      obtain ⟨v47, e47, h⟩ := bd h
      have h := Option.some.inj h
      subst h
      exact hi
theorem i_X10_skill_W31 {a0 : Nat} {l1 : Int32} {l2 : Int32} {s31 : Int32 × Mm} {b : Mm} {q : Nat} (h : whl (f_X10_skill_L31 a0 l1 l2) s31 = some b) (c_a0 : ∀ p ∈ ([[9], [10]] : List (List Nat)), ¬ rch (mm_P ((fun (q : Int32 × Mm) => q.2) s31)) a0 p q) : mm_I ((fun (q : Mm) => q) b) q = mm_I ((fun (q : Int32 × Mm) => q.2) s31) q := by
  have key := whl_inv (P := fun s' => mm_I ((fun (q : Int32 × Mm) => q.2) s') q = mm_I ((fun (q : Int32 × Mm) => q.2) s31) q ∧ mm_P ((fun (q : Int32 × Mm) => q.2) s') = mm_P ((fun (q : Int32 × Mm) => q.2) s31)) (Q := fun b' => mm_I ((fun (q : Mm) => q) b') q = mm_I ((fun (q : Int32 × Mm) => q.2) s31) q) (fun s' x hs1 hx => ?_) ⟨rfl, rfl⟩ h
  · exact key
  · obtain ⟨h1, hP⟩ := hs1
    have k1 := (i_X10_skill_L31 hx (fun p hp hr => c_a0 p hp (by rw [← hP]; exact hr))).trans h1
    have k2 := (p_X10_skill_L31 hx).trans hP
    cases x with
    | inl z => exact ⟨k1, k2⟩
    | inr z => exact k1
theorem i_X10_skill {a0 : Nat} {l1 : Int32} {l2 : Int32} {μ : Mm} {x : (Int32 × Mm)} {q : Nat} (h : f_X10_skill a0 l1 l2 μ = some x) (c_a0 : ∀ p ∈ ([[9], [10]] : List (List Nat)), ¬ rch (mm_P μ) a0 p q) : mm_I ((fun (q : (Int32 × Mm)) => q.2) x) q = mm_I μ q := by
  have hi : mm_I μ q = mm_I μ q := rfl
  have hp : mm_P μ = mm_P μ := rfl
  have r_a0 : rch (mm_P μ) a0 [] a0 := rfl
  obtain ⟨_, h⟩ := ite_p h
  obtain ⟨x1, e1, h⟩ := bd h
  have r_x1 := rch_f r_a0 e1 hp
  obtain ⟨x5, e5, h⟩ := bd h
  rcases ite_e h with ⟨_, h⟩ | ⟨_, h⟩
  · have h := Option.some.inj h
    subst h
    exact hi
  · obtain ⟨x12, e12, h⟩ := bd h
    rcases ite_e h with ⟨_, h⟩ | ⟨_, h⟩
    · have h := Option.some.inj h
      subst h
      exact hi
    · obtain ⟨x22, e22, h⟩ := bd h
      have r_x22 := rch_f r_a0 e22 hp
      obtain ⟨x26, e26, h⟩ := bd h
      have hi := (i_J7_fill_53178 e26 (rch_sub c_a0 r_x22 (by decide) hp)).trans hi
      have hp := (p_J7_fill_53178 e26).trans hp
      obtain ⟨b31, w31, h⟩ := bd h
      have hi := (i_X10_skill_W31 w31 (rch_sub c_a0 r_a0 (by decide) hp)).trans hi
      have hp := (p_X10_skill_W31 w31).trans hp
      exact (i_X10_skill_J53 h ).trans hi
theorem i_X10_take {a0 : Nat} {l1 : Int32} {μ : Mm} {x : (Int32 × Mm)} {q : Nat} (h : f_X10_take a0 l1 μ = some x) (c_a0 : ∀ p ∈ ([[6], [6, 0]] : List (List Nat)), ¬ rch (mm_P μ) a0 p q) : mm_I ((fun (q : (Int32 × Mm)) => q.2) x) q = mm_I μ q := by
  have hi : mm_I μ q = mm_I μ q := rfl
  have hp : mm_P μ = mm_P μ := rfl
  have r_a0 : rch (mm_P μ) a0 [] a0 := rfl
  obtain ⟨_, h⟩ := ite_p h
  rcases ite_e h with ⟨_, h⟩ | ⟨_, h⟩
  · have h := Option.some.inj h
    subst h
    exact hi
  · obtain ⟨x6, e6, h⟩ := bd h
    have r_x6 := rch_f r_a0 e6 hp
    obtain ⟨x9, e9, h⟩ := bd h
    rcases ite_e h with ⟨_, h⟩ | ⟨_, h⟩
    · obtain ⟨x17, e17, h⟩ := bd h
      have r_x17 := rch_f r_a0 e17 hp
      obtain ⟨x21, e21, h⟩ := bd h
      have r_x21 := rch_e r_x17 e21 hp
      obtain ⟨x22, e22, h⟩ := bd h
      rcases ite_e h with ⟨_, h⟩ | ⟨_, h⟩
      · have h := Option.some.inj h
        subst h
        exact hi
      · obtain ⟨x32, e32, h⟩ := bd h
        have r_x32 := rch_f r_a0 e32 hp
        obtain ⟨x36, e36, h⟩ := bd h
        have r_x36 := rch_f r_a0 e36 hp
        obtain ⟨x40, e40, h⟩ := bd h
        have r_x40 := rch_e r_x36 e40 hp
        obtain ⟨x41, e41, h⟩ := bd h
        have hi := (i_X3_copyFrom e41 (rch_sub c_a0 r_x32 (by decide) hp)).trans hi
        have hp := (p_X3_copyFrom e41).trans hp
        obtain ⟨x45, e45, h⟩ := bd h
        have r_x45 := rch_f r_a0 e45 hp
        obtain ⟨x48, e48, h⟩ := bd h
        have h := Option.some.inj h
        subst h
        exact hi
    · have h := Option.some.inj h
      subst h
      exact hi
theorem i_X8_fail {a0 : Nat} {l1 : Int32} {μ : Mm} {x : (Int32 × Mm)} {q : Nat} (h : f_X8_fail a0 l1 μ = some x) (c_a0 : ∀ p ∈ ([[]] : List (List Nat)), ¬ rch (mm_P μ) a0 p q) : mm_I ((fun (q : (Int32 × Mm)) => q.2) x) q = mm_I μ q := by
  have hi : mm_I μ q = mm_I μ q := rfl
  have hp : mm_P μ = mm_P μ := rfl
  have r_a0 : rch (mm_P μ) a0 [] a0 := rfl
  obtain ⟨_, h⟩ := ite_p h
  obtain ⟨μ2, e2, h⟩ := bd h
  have hi := (ki_pfI e2 (rch_ne c_a0 (by decide) r_a0)).trans hi
  have hp := (kp_pfI e2).trans hp
  obtain ⟨x7, e7, h⟩ := bd h
  have r_x7 := rch_f r_a0 e7 hp
  obtain ⟨x10, e10, h⟩ := bd h
  obtain ⟨μ13, e13, h⟩ := bd h
  have hi := (ki_pfI e13 (rch_ne c_a0 (by decide) r_a0)).trans hi
  have hp := (kp_pfI e13).trans hp
  have h := Option.some.inj h
  subst h
  exact hi
theorem i_X8_readMark_J26  {μ : Mm} {x : (Int32 × Mm)} {q : Nat} (h : f_X8_readMark_J26  μ = some x)  : mm_I ((fun (q : (Int32 × Mm)) => q.2) x) q = mm_I μ q := by
  have hi : mm_I μ q = mm_I μ q := rfl
  have hp : mm_P μ = mm_P μ := rfl
  have h := Option.some.inj h
  subst h
  exact hi
theorem i_X8_readMark {a0 : Nat} {μ : Mm} {x : (Int32 × Mm)} {q : Nat} (h : f_X8_readMark a0 μ = some x) (c_a0 : ∀ p ∈ ([[], [0]] : List (List Nat)), ¬ rch (mm_P μ) a0 p q) : mm_I ((fun (q : (Int32 × Mm)) => q.2) x) q = mm_I μ q := by
  have hi : mm_I μ q = mm_I μ q := rfl
  have hp : mm_P μ = mm_P μ := rfl
  have r_a0 : rch (mm_P μ) a0 [] a0 := rfl
  obtain ⟨_, h⟩ := ite_p h
  obtain ⟨x1, e1, h⟩ := bd h
  have r_x1 := rch_f r_a0 e1 hp
  obtain ⟨x4, e4, h⟩ := bd h
  have hi := (i_X6_advance e4 (rch_sub c_a0 r_x1 (by decide) hp)).trans hi
  have hp := (p_X6_advance e4).trans hp
  obtain ⟨x8, e8, h⟩ := bd h
  have r_x8 := rch_f r_a0 e8 hp
  obtain ⟨x11, e11, h⟩ := bd h
  rcases ite_e h with ⟨_, h⟩ | ⟨_, h⟩
  · exact (i_X8_readMark_J26 h ).trans hi
  · obtain ⟨x20, e20, h⟩ := bd h
    have hi := (i_X8_fail e20 (rch_sub c_a0 r_a0 (by decide) hp)).trans hi
    have hp := (p_X8_fail e20).trans hp
    rcases ite_e h with ⟨_, h⟩ | ⟨_, h⟩
    · have h := Option.some.inj h
      subst h
      exact hi
    · exact (i_X8_readMark_J26 h ).trans hi
theorem i_X8_readNamed {a0 : Nat} {μ : Mm} {x : (Int32 × Mm)} {q : Nat} (h : f_X8_readNamed a0 μ = some x) (c_a0 : ∀ p ∈ ([[], [0]] : List (List Nat)), ¬ rch (mm_P μ) a0 p q) : mm_I ((fun (q : (Int32 × Mm)) => q.2) x) q = mm_I μ q := by
  have hi : mm_I μ q = mm_I μ q := rfl
  have hp : mm_P μ = mm_P μ := rfl
  have r_a0 : rch (mm_P μ) a0 [] a0 := rfl
  obtain ⟨_, h⟩ := ite_p h
  obtain ⟨x1, e1, h⟩ := bd h
  have r_x1 := rch_f r_a0 e1 hp
  obtain ⟨x4, e4, h⟩ := bd h
  have hi := (i_X6_advance e4 (rch_sub c_a0 r_x1 (by decide) hp)).trans hi
  have hp := (p_X6_advance e4).trans hp
  obtain ⟨x8, e8, h⟩ := bd h
  have r_x8 := rch_f r_a0 e8 hp
  obtain ⟨x11, e11, h⟩ := bd h
  rcases ite_e h with ⟨_, h⟩ | ⟨_, h⟩
  · obtain ⟨x27, e27, h⟩ := bd h
    have r_x27 := rch_f r_a0 e27 hp
    obtain ⟨x31, e31, h⟩ := bd h
    have r_x31 := rch_f r_a0 e31 hp
    obtain ⟨x34, e34, h⟩ := bd h
    obtain ⟨x37, e37, h⟩ := bd h
    rcases ite_e h with ⟨_, h⟩ | ⟨_, h⟩
    · obtain ⟨x48, e48, h⟩ := bd h
      have hi := (i_X8_fail e48 (rch_sub c_a0 r_a0 (by decide) hp)).trans hi
      have hp := (p_X8_fail e48).trans hp
      have h := Option.some.inj h
      subst h
      exact hi
    · have h := Option.some.inj h
      subst h
      exact hi
  · obtain ⟨x20, e20, h⟩ := bd h
    have hi := (i_X8_fail e20 (rch_sub c_a0 r_a0 (by decide) hp)).trans hi
    have hp := (p_X8_fail e20).trans hp
    have h := Option.some.inj h
    subst h
    exact hi
theorem i_X8_readDreams_J108 {a0 : Nat} {μ : Mm} {x : (Int32 × Mm)} {q : Nat} (h : f_X8_readDreams_J108 a0 μ = some x) (c_a0 : ∀ p ∈ ([[]] : List (List Nat)), ¬ rch (mm_P μ) a0 p q) : mm_I ((fun (q : (Int32 × Mm)) => q.2) x) q = mm_I μ q := by
  have hi : mm_I μ q = mm_I μ q := rfl
  have hp : mm_P μ = mm_P μ := rfl
  have r_a0 : rch (mm_P μ) a0 [] a0 := rfl
  obtain ⟨x110, e110, h⟩ := bd h
  have hi := (i_X8_fail e110 (rch_sub c_a0 r_a0 (by decide) hp)).trans hi
  have hp := (p_X8_fail e110).trans hp
  obtain ⟨_, h⟩ := ite_p h
  have h := Option.some.inj h
  subst h
  exact hi
theorem i_X8_readDreams {a0 : Nat} {μ : Mm} {x : (Int32 × Mm)} {q : Nat} (h : f_X8_readDreams a0 μ = some x) (c_a0 : ∀ p ∈ ([[], [0], [1], [1, 1]] : List (List Nat)), ¬ rch (mm_P μ) a0 p q) : mm_I ((fun (q : (Int32 × Mm)) => q.2) x) q = mm_I μ q := by
  have hi : mm_I μ q = mm_I μ q := rfl
  have hp : mm_P μ = mm_P μ := rfl
  have r_a0 : rch (mm_P μ) a0 [] a0 := rfl
  obtain ⟨_, h⟩ := ite_p h
  obtain ⟨x1, e1, h⟩ := bd h
  have hi := (i_X8_readNamed e1 (rch_sub c_a0 r_a0 (by decide) hp)).trans hi
  have hp := (p_X8_readNamed e1).trans hp
  obtain ⟨x6, e6, h⟩ := bd h
  have r_x6 := rch_f r_a0 e6 hp
  obtain ⟨x10, e10, h⟩ := bd h
  rcases ite_e h with ⟨_, h⟩ | ⟨_, h⟩
  · have h := Option.some.inj h
    subst h
    exact hi
  · obtain ⟨x19, e19, h⟩ := bd h
    have r_x19 := rch_f r_a0 e19 hp
    obtain ⟨x23, e23, h⟩ := bd h
    rcases ite_e h with ⟨_, h⟩ | ⟨_, h⟩
    · obtain ⟨x36, e36, h⟩ := bd h
      have r_x36 := rch_f r_a0 e36 hp
      obtain ⟨x39, e39, h⟩ := bd h
      have r_x39 := rch_f r_x36 e39 hp
      obtain ⟨x43, e43, h⟩ := bd h
      rcases ite_e h with ⟨_, h⟩ | ⟨_, h⟩
      · obtain ⟨x55, e55, h⟩ := bd h
        have hi := (i_X8_readNamed e55 (rch_sub c_a0 r_a0 (by decide) hp)).trans hi
        have hp := (p_X8_readNamed e55).trans hp
        obtain ⟨x60, e60, h⟩ := bd h
        have r_x60 := rch_f r_a0 e60 hp
        obtain ⟨x64, e64, h⟩ := bd h
        rcases ite_e h with ⟨_, h⟩ | ⟨_, h⟩
        · have h := Option.some.inj h
          subst h
          exact hi
        · obtain ⟨x73, e73, h⟩ := bd h
          have r_x73 := rch_f r_a0 e73 hp
          obtain ⟨x77, e77, h⟩ := bd h
          rcases ite_e h with ⟨_, h⟩ | ⟨_, h⟩
          · rcases ite_e h with ⟨_, h⟩ | ⟨_, h⟩
            · exact (i_X8_readDreams_J108 h (rch_sub c_a0 r_a0 (by decide) hp)).trans hi
            · obtain ⟨x95, e95, h⟩ := bd h
              have r_x95 := rch_f r_a0 e95 hp
              obtain ⟨x98, e98, h⟩ := bd h
              rcases ite_e h with ⟨_, h⟩ | ⟨_, h⟩
              · obtain ⟨x115, e115, h⟩ := bd h
                have r_x115 := rch_f r_a0 e115 hp
                obtain ⟨x118, e118, h⟩ := bd h
                have r_x118 := rch_f r_x115 e118 hp
                obtain ⟨μ123, e123, h⟩ := bd h
                have hi := (ki_paI e123 (rch_ne c_a0 (by decide) r_x118)).trans hi
                have hp := (kp_paI e123).trans hp
                obtain ⟨x125, e125, h⟩ := bd h
                have r_x125 := rch_f r_a0 e125 hp
                obtain ⟨x129, e129, h⟩ := bd h
                obtain ⟨μ136, e136, h⟩ := bd h
                have hi := (ki_pfI e136 (rch_ne c_a0 (by decide) r_x125)).trans hi
                have hp := (kp_pfI e136).trans hp
                obtain ⟨x140, e140, h⟩ := bd h
                have hi := (i_X8_readMark e140 (rch_sub c_a0 r_a0 (by decide) hp)).trans hi
                have hp := (p_X8_readMark e140).trans hp
                obtain ⟨_, h⟩ := ite_p h
                have h := Option.some.inj h
                subst h
                exact hi
              · exact (i_X8_readDreams_J108 h (rch_sub c_a0 r_a0 (by decide) hp)).trans hi
          · obtain ⟨x85, e85, h⟩ := bd h
            have hi := (i_X8_fail e85 (rch_sub c_a0 r_a0 (by decide) hp)).trans hi
            have hp := (p_X8_fail e85).trans hp
            obtain ⟨_, h⟩ := ite_p h
            have h := Option.some.inj h
            subst h
            exact hi
      · obtain ⟨x50, e50, h⟩ := bd h
        have hi := (i_X8_fail e50 (rch_sub c_a0 r_a0 (by decide) hp)).trans hi
        have hp := (p_X8_fail e50).trans hp
        obtain ⟨_, h⟩ := ite_p h
        have h := Option.some.inj h
        subst h
        exact hi
    · obtain ⟨x31, e31, h⟩ := bd h
      have hi := (i_X8_fail e31 (rch_sub c_a0 r_a0 (by decide) hp)).trans hi
      have hp := (p_X8_fail e31).trans hp
      obtain ⟨_, h⟩ := ite_p h
      have h := Option.some.inj h
      subst h
      exact hi
theorem i_X2_add {a0 : Nat} {l1 : Int32} {l2 : Int32} {l3 : Int32} {l4 : Int32} {μ : Mm} {x : Mm} {q : Nat} (h : f_X2_add a0 l1 l2 l3 l4 μ = some x) (c_a0 : ∀ p ∈ ([[], [0]] : List (List Nat)), ¬ rch (mm_P μ) a0 p q) : mm_I ((fun (q : Mm) => q) x) q = mm_I μ q := by
  have hi : mm_I μ q = mm_I μ q := rfl
  have hp : mm_P μ = mm_P μ := rfl
  have r_a0 : rch (mm_P μ) a0 [] a0 := rfl
  obtain ⟨_, h⟩ := ite_p h
  obtain ⟨x1, e1, h⟩ := bd h
  rcases ite_e h with ⟨_, h⟩ | ⟨_, h⟩
  · obtain ⟨x9, e9, h⟩ := bd h
    obtain ⟨v14, e14, h⟩ := bd h
    obtain ⟨x17, e17, h⟩ := bd h
    have r_x17 := rch_f r_a0 e17 hp
    obtain ⟨μ23, e23, h⟩ := bd h
    have hi := (ki_paI e23 (rch_ne c_a0 (by decide) r_x17)).trans hi
    have hp := (kp_paI e23).trans hp
    obtain ⟨x25, e25, h⟩ := bd h
    have r_x25 := rch_f r_a0 e25 hp
    obtain ⟨μ33, e33, h⟩ := bd h
    have hi := (ki_paI e33 (rch_ne c_a0 (by decide) r_x25)).trans hi
    have hp := (kp_paI e33).trans hp
    obtain ⟨x35, e35, h⟩ := bd h
    have r_x35 := rch_f r_a0 e35 hp
    obtain ⟨μ43, e43, h⟩ := bd h
    have hi := (ki_paI e43 (rch_ne c_a0 (by decide) r_x35)).trans hi
    have hp := (kp_paI e43).trans hp
    obtain ⟨x45, e45, h⟩ := bd h
    have r_x45 := rch_f r_a0 e45 hp
    obtain ⟨μ54, e54, h⟩ := bd h
    have hi := (ki_paI e54 (rch_ne c_a0 (by decide) r_x45)).trans hi
    have hp := (kp_paI e54).trans hp
    obtain ⟨x57, e57, h⟩ := bd h
    obtain ⟨μ62, e62, h⟩ := bd h
    have hi := (ki_pfI e62 (rch_ne c_a0 (by decide) r_a0)).trans hi
    have hp := (kp_pfI e62).trans hp
    have h := Option.some.inj h
    subst h
    exact hi
  · have h := Option.some.inj h
    subst h
    exact hi
theorem i_X8_readBetween_J48 {a0 : Nat} {μ : Mm} {x : (Int32 × Mm)} {q : Nat} (h : f_X8_readBetween_J48 a0 μ = some x) (c_a0 : ∀ p ∈ ([[]] : List (List Nat)), ¬ rch (mm_P μ) a0 p q) : mm_I ((fun (q : (Int32 × Mm)) => q.2) x) q = mm_I μ q := by
  have hi : mm_I μ q = mm_I μ q := rfl
  have hp : mm_P μ = mm_P μ := rfl
  have r_a0 : rch (mm_P μ) a0 [] a0 := rfl
  obtain ⟨x50, e50, h⟩ := bd h
  have hi := (i_X8_fail e50 (rch_sub c_a0 r_a0 (by decide) hp)).trans hi
  have hp := (p_X8_fail e50).trans hp
  have h := Option.some.inj h
  subst h
  exact hi
theorem i_X8_readBetween {a0 : Nat} {l1 : Int32} {l2 : Int32} {μ : Mm} {x : (Int32 × Mm)} {q : Nat} (h : f_X8_readBetween a0 l1 l2 μ = some x) (c_a0 : ∀ p ∈ ([[], [0]] : List (List Nat)), ¬ rch (mm_P μ) a0 p q) : mm_I ((fun (q : (Int32 × Mm)) => q.2) x) q = mm_I μ q := by
  have hi : mm_I μ q = mm_I μ q := rfl
  have hp : mm_P μ = mm_P μ := rfl
  have r_a0 : rch (mm_P μ) a0 [] a0 := rfl
  obtain ⟨_, h⟩ := ite_p h
  obtain ⟨x1, e1, h⟩ := bd h
  have r_x1 := rch_f r_a0 e1 hp
  obtain ⟨x4, e4, h⟩ := bd h
  have hi := (i_X6_advance e4 (rch_sub c_a0 r_x1 (by decide) hp)).trans hi
  have hp := (p_X6_advance e4).trans hp
  obtain ⟨x8, e8, h⟩ := bd h
  have r_x8 := rch_f r_a0 e8 hp
  obtain ⟨x11, e11, h⟩ := bd h
  rcases ite_e h with ⟨_, h⟩ | ⟨_, h⟩
  · obtain ⟨x27, e27, h⟩ := bd h
    have r_x27 := rch_f r_a0 e27 hp
    obtain ⟨x30, e30, h⟩ := bd h
    rcases ite_e h with ⟨_, h⟩ | ⟨_, h⟩
    · exact (i_X8_readBetween_J48 h (rch_sub c_a0 r_a0 (by decide) hp)).trans hi
    · obtain ⟨x38, e38, h⟩ := bd h
      have r_x38 := rch_f r_a0 e38 hp
      obtain ⟨x41, e41, h⟩ := bd h
      rcases ite_e h with ⟨_, h⟩ | ⟨_, h⟩
      · obtain ⟨x57, e57, h⟩ := bd h
        have r_x57 := rch_f r_a0 e57 hp
        obtain ⟨x60, e60, h⟩ := bd h
        have h := Option.some.inj h
        subst h
        exact hi
      · exact (i_X8_readBetween_J48 h (rch_sub c_a0 r_a0 (by decide) hp)).trans hi
  · obtain ⟨x20, e20, h⟩ := bd h
    have hi := (i_X8_fail e20 (rch_sub c_a0 r_a0 (by decide) hp)).trans hi
    have hp := (p_X8_fail e20).trans hp
    have h := Option.some.inj h
    subst h
    exact hi
theorem i_X8_readDull {a0 : Nat} {μ : Mm} {x : (Int32 × Mm)} {q : Nat} (h : f_X8_readDull a0 μ = some x) (c_a0 : ∀ p ∈ ([[], [0], [1, 6], [1, 6, 0]] : List (List Nat)), ¬ rch (mm_P μ) a0 p q) : mm_I ((fun (q : (Int32 × Mm)) => q.2) x) q = mm_I μ q := by
  have hi : mm_I μ q = mm_I μ q := rfl
  have hp : mm_P μ = mm_P μ := rfl
  have r_a0 : rch (mm_P μ) a0 [] a0 := rfl
  obtain ⟨_, h⟩ := ite_p h
  obtain ⟨x1, e1, h⟩ := bd h
  have hi := (i_X8_readNamed e1 (rch_sub c_a0 r_a0 (by decide) hp)).trans hi
  have hp := (p_X8_readNamed e1).trans hp
  rcases ite_e h with ⟨_, h⟩ | ⟨_, h⟩
  · have h := Option.some.inj h
    subst h
    exact hi
  · obtain ⟨x16, e16, h⟩ := bd h
    have hi := (i_X8_readBetween e16 (rch_sub c_a0 r_a0 (by decide) hp)).trans hi
    have hp := (p_X8_readBetween e16).trans hp
    rcases ite_e h with ⟨_, h⟩ | ⟨_, h⟩
    · have h := Option.some.inj h
      subst h
      exact hi
    · obtain ⟨x31, e31, h⟩ := bd h
      have hi := (i_X8_readBetween e31 (rch_sub c_a0 r_a0 (by decide) hp)).trans hi
      have hp := (p_X8_readBetween e31).trans hp
      rcases ite_e h with ⟨_, h⟩ | ⟨_, h⟩
      · have h := Option.some.inj h
        subst h
        exact hi
      · obtain ⟨x43, e43, h⟩ := bd h
        have r_x43 := rch_f r_a0 e43 hp
        obtain ⟨x46, e46, h⟩ := bd h
        have r_x46 := rch_f r_x43 e46 hp
        obtain ⟨x53, e53, h⟩ := bd h
        have hi := (i_X2_add e53 (rch_sub c_a0 r_x46 (by decide) hp)).trans hi
        have hp := (p_X2_add e53).trans hp
        obtain ⟨x57, e57, h⟩ := bd h
        have hi := (i_X8_readMark e57 (rch_sub c_a0 r_a0 (by decide) hp)).trans hi
        have hp := (p_X8_readMark e57).trans hp
        obtain ⟨_, h⟩ := ite_p h
        have h := Option.some.inj h
        subst h
        exact hi
theorem i_X7_addPerson {a0 : Nat} {l1 : Int64} {μ : Mm} {x : Mm} {q : Nat} (h : f_X7_addPerson a0 l1 μ = some x) (c_a0 : ∀ p ∈ ([[]] : List (List Nat)), ¬ rch (mm_P μ) a0 p q) : mm_I ((fun (q : Mm) => q) x) q = mm_I μ q := by
  have hi : mm_I μ q = mm_I μ q := rfl
  have hp : mm_P μ = mm_P μ := rfl
  have r_a0 : rch (mm_P μ) a0 [] a0 := rfl
  obtain ⟨_, h⟩ := ite_p h
  obtain ⟨x1, e1, h⟩ := bd h
  rcases ite_e h with ⟨_, h⟩ | ⟨_, h⟩
  · have h := Option.some.inj h
    subst h
    exact hi
  · obtain ⟨x10, e10, h⟩ := bd h
    have r_x10 := rch_f r_a0 e10 hp
    obtain ⟨x14, e14, h⟩ := bd h
    obtain ⟨μ18, e18, h⟩ := bd h
    have hi := (ki_paL e18).trans hi
    have hp := (kp_paL e18).trans hp
    obtain ⟨x21, e21, h⟩ := bd h
    obtain ⟨μ26, e26, h⟩ := bd h
    have hi := (ki_pfI e26 (rch_ne c_a0 (by decide) r_a0)).trans hi
    have hp := (kp_pfI e26).trans hp
    have h := Option.some.inj h
    subst h
    exact hi
theorem i_X8_readPerson_J128  {μ : Mm} {x : (Int32 × Mm)} {q : Nat} (h : f_X8_readPerson_J128  μ = some x)  : mm_I ((fun (q : (Int32 × Mm)) => q.2) x) q = mm_I μ q := by
  have hi : mm_I μ q = mm_I μ q := rfl
  have hp : mm_P μ = mm_P μ := rfl
  have h := Option.some.inj h
  subst h
  exact hi
theorem i_X8_readPerson {a0 : Nat} {μ : Mm} {x : (Int32 × Mm)} {q : Nat} (h : f_X8_readPerson a0 μ = some x) (c_a0 : ∀ p ∈ ([[], [0], [1]] : List (List Nat)), ¬ rch (mm_P μ) a0 p q) : mm_I ((fun (q : (Int32 × Mm)) => q.2) x) q = mm_I μ q := by
  have hi : mm_I μ q = mm_I μ q := rfl
  have hp : mm_P μ = mm_P μ := rfl
  have r_a0 : rch (mm_P μ) a0 [] a0 := rfl
  obtain ⟨_, h⟩ := ite_p h
  obtain ⟨x1, e1, h⟩ := bd h
  have r_x1 := rch_f r_a0 e1 hp
  obtain ⟨x4, e4, h⟩ := bd h
  have hi := (i_X6_advance e4 (rch_sub c_a0 r_x1 (by decide) hp)).trans hi
  have hp := (p_X6_advance e4).trans hp
  obtain ⟨x8, e8, h⟩ := bd h
  have r_x8 := rch_f r_a0 e8 hp
  obtain ⟨x11, e11, h⟩ := bd h
  rcases ite_e h with ⟨_, h⟩ | ⟨_, h⟩
  · obtain ⟨x25, e25, h⟩ := bd h
    have r_x25 := rch_f r_a0 e25 hp
    obtain ⟨x29, e29, h⟩ := bd h
    have r_x29 := rch_f r_a0 e29 hp
    obtain ⟨x32, e32, h⟩ := bd h
    obtain ⟨x35, e35, h⟩ := bd h
    rcases ite_e h with ⟨_, h⟩ | ⟨_, h⟩
    · obtain ⟨x49, e49, h⟩ := bd h
      have r_x49 := rch_f r_a0 e49 hp
      obtain ⟨x53, e53, h⟩ := bd h
      have r_x53 := rch_f r_a0 e53 hp
      obtain ⟨x56, e56, h⟩ := bd h
      obtain ⟨x59, e59, h⟩ := bd h
      have hi := (i_X7_addPerson e59 (rch_sub c_a0 r_x49 (by decide) hp)).trans hi
      have hp := (p_X7_addPerson e59).trans hp
      obtain ⟨x63, e63, h⟩ := bd h
      have r_x63 := rch_f r_a0 e63 hp
      obtain ⟨x66, e66, h⟩ := bd h
      have hi := (i_X6_advance e66 (rch_sub c_a0 r_x63 (by decide) hp)).trans hi
      have hp := (p_X6_advance e66).trans hp
      obtain ⟨x70, e70, h⟩ := bd h
      have r_x70 := rch_f r_a0 e70 hp
      obtain ⟨x75, e75, h⟩ := bd h
      rcases ite_e h with ⟨_, h⟩ | ⟨_, h⟩
      · obtain ⟨x110, e110, h⟩ := bd h
        have r_x110 := rch_f r_a0 e110 hp
        obtain ⟨x113, e113, h⟩ := bd h
        rcases ite_e h with ⟨_, h⟩ | ⟨_, h⟩
        · exact (i_X8_readPerson_J128 h ).trans hi
        · obtain ⟨x122, e122, h⟩ := bd h
          have hi := (i_X8_fail e122 (rch_sub c_a0 r_a0 (by decide) hp)).trans hi
          have hp := (p_X8_fail e122).trans hp
          rcases ite_e h with ⟨_, h⟩ | ⟨_, h⟩
          · have h := Option.some.inj h
            subst h
            exact hi
          · exact (i_X8_readPerson_J128 h ).trans hi
      · obtain ⟨x82, e82, h⟩ := bd h
        have r_x82 := rch_f r_a0 e82 hp
        obtain ⟨x86, e86, h⟩ := bd h
        obtain ⟨x91, e91, h⟩ := bd h
        have r_x91 := rch_f r_a0 e91 hp
        obtain ⟨x94, e94, h⟩ := bd h
        obtain ⟨μ101, e101, h⟩ := bd h
        have hi := (ki_pfI e101 (rch_ne c_a0 (by decide) r_x82)).trans hi
        have hp := (kp_pfI e101).trans hp
        obtain ⟨x105, e105, h⟩ := bd h
        have hi := (i_X8_readMark e105 (rch_sub c_a0 r_a0 (by decide) hp)).trans hi
        have hp := (p_X8_readMark e105).trans hp
        obtain ⟨_, h⟩ := ite_p h
        have h := Option.some.inj h
        subst h
        exact hi
    · obtain ⟨x44, e44, h⟩ := bd h
      have hi := (i_X8_fail e44 (rch_sub c_a0 r_a0 (by decide) hp)).trans hi
      have hp := (p_X8_fail e44).trans hp
      obtain ⟨_, h⟩ := ite_p h
      have h := Option.some.inj h
      subst h
      exact hi
  · obtain ⟨x20, e20, h⟩ := bd h
    have hi := (i_X8_fail e20 (rch_sub c_a0 r_a0 (by decide) hp)).trans hi
    have hp := (p_X8_fail e20).trans hp
    obtain ⟨_, h⟩ := ite_p h
    have h := Option.some.inj h
    subst h
    exact hi
theorem i_X8_readPersonAndDay {a0 : Nat} {l1 : Nat} {μ : Mm} {x : (Int32 × Mm)} {q : Nat} (h : f_X8_readPersonAndDay a0 l1 μ = some x) (c_a0 : ∀ p ∈ ([[], [0]] : List (List Nat)), ¬ rch (mm_P μ) a0 p q) (c_l1 : ∀ p ∈ ([[], [0]] : List (List Nat)), ¬ rch (mm_P μ) l1 p q) : mm_I ((fun (q : (Int32 × Mm)) => q.2) x) q = mm_I μ q := by
  have hi : mm_I μ q = mm_I μ q := rfl
  have hp : mm_P μ = mm_P μ := rfl
  have r_a0 : rch (mm_P μ) a0 [] a0 := rfl
  have r_l1 : rch (mm_P μ) l1 [] l1 := rfl
  obtain ⟨_, h⟩ := ite_p h
  obtain ⟨x1, e1, h⟩ := bd h
  have hi := (i_X8_readNamed e1 (rch_sub c_a0 r_a0 (by decide) hp)).trans hi
  have hp := (p_X8_readNamed e1).trans hp
  rcases ite_e h with ⟨_, h⟩ | ⟨_, h⟩
  · have h := Option.some.inj h
    subst h
    exact hi
  · obtain ⟨x16, e16, h⟩ := bd h
    have hi := (i_X8_readBetween e16 (rch_sub c_a0 r_a0 (by decide) hp)).trans hi
    have hp := (p_X8_readBetween e16).trans hp
    rcases ite_e h with ⟨_, h⟩ | ⟨_, h⟩
    · have h := Option.some.inj h
      subst h
      exact hi
    · obtain ⟨x32, e32, h⟩ := bd h
      have hi := (i_X2_add e32 (rch_sub c_l1 r_l1 (by decide) hp)).trans hi
      have hp := (p_X2_add e32).trans hp
      obtain ⟨x36, e36, h⟩ := bd h
      have hi := (i_X8_readMark e36 (rch_sub c_a0 r_a0 (by decide) hp)).trans hi
      have hp := (p_X8_readMark e36).trans hp
      obtain ⟨_, h⟩ := ite_p h
      have h := Option.some.inj h
      subst h
      exact hi
theorem i_X8_readSetting_J82 {a0 : Nat} {μ : Mm} {x : (Int32 × Mm)} {q : Nat} (h : f_X8_readSetting_J82 a0 μ = some x) (c_a0 : ∀ p ∈ ([[], [0]] : List (List Nat)), ¬ rch (mm_P μ) a0 p q) : mm_I ((fun (q : (Int32 × Mm)) => q.2) x) q = mm_I μ q := by
  have hi : mm_I μ q = mm_I μ q := rfl
  have hp : mm_P μ = mm_P μ := rfl
  have r_a0 : rch (mm_P μ) a0 [] a0 := rfl
  obtain ⟨x83, e83, h⟩ := bd h
  have hi := (i_X8_readMark e83 (rch_sub c_a0 r_a0 (by decide) hp)).trans hi
  have hp := (p_X8_readMark e83).trans hp
  obtain ⟨_, h⟩ := ite_p h
  have h := Option.some.inj h
  subst h
  exact hi
theorem i_X8_readSetting_J34 {a0 : Nat} {l1 : Int32} {l2 : Int32} {k0 : Int32} {μ : Mm} {x : (Int32 × Mm)} {q : Nat} (h : f_X8_readSetting_J34 a0 l1 l2 k0 μ = some x) (c_a0 : ∀ p ∈ ([[], [0], [1]] : List (List Nat)), ¬ rch (mm_P μ) a0 p q) : mm_I ((fun (q : (Int32 × Mm)) => q.2) x) q = mm_I μ q := by
  have hi : mm_I μ q = mm_I μ q := rfl
  have hp : mm_P μ = mm_P μ := rfl
  have r_a0 : rch (mm_P μ) a0 [] a0 := rfl
  rcases ite_e h with ⟨_, h⟩ | ⟨_, h⟩
  · have h := Option.some.inj h
    subst h
    exact hi
  · rcases ite_e h with ⟨_, h⟩ | ⟨_, h⟩
    · rcases ite_e h with ⟨_, h⟩ | ⟨_, h⟩
      · obtain ⟨x64, e64, h⟩ := bd h
        have r_x64 := rch_f r_a0 e64 hp
        obtain ⟨μ68, e68, h⟩ := bd h
        have hi := (ki_pfI e68 (rch_ne c_a0 (by decide) r_x64)).trans hi
        have hp := (kp_pfI e68).trans hp
        exact (i_X8_readSetting_J82 h (rch_sub c_a0 r_a0 (by decide) hp)).trans hi
      · obtain ⟨x75, e75, h⟩ := bd h
        have r_x75 := rch_f r_a0 e75 hp
        obtain ⟨μ79, e79, h⟩ := bd h
        have hi := (ki_pfI e79 (rch_ne c_a0 (by decide) r_x75)).trans hi
        have hp := (kp_pfI e79).trans hp
        exact (i_X8_readSetting_J82 h (rch_sub c_a0 r_a0 (by decide) hp)).trans hi
    · obtain ⟨x47, e47, h⟩ := bd h
      have r_x47 := rch_f r_a0 e47 hp
      obtain ⟨μ51, e51, h⟩ := bd h
      have hi := (ki_pfI e51 (rch_ne c_a0 (by decide) r_x47)).trans hi
      have hp := (kp_pfI e51).trans hp
      exact (i_X8_readSetting_J82 h (rch_sub c_a0 r_a0 (by decide) hp)).trans hi
theorem i_X8_readSetting_J11 {a0 : Nat} {l1 : Int32} {k0 : Int32} {μ : Mm} {x : (Int32 × Mm)} {q : Nat} (h : f_X8_readSetting_J11 a0 l1 k0 μ = some x) (c_a0 : ∀ p ∈ ([[], [0], [1]] : List (List Nat)), ¬ rch (mm_P μ) a0 p q) : mm_I ((fun (q : (Int32 × Mm)) => q.2) x) q = mm_I μ q := by
  have hi : mm_I μ q = mm_I μ q := rfl
  have hp : mm_P μ = mm_P μ := rfl
  have r_a0 : rch (mm_P μ) a0 [] a0 := rfl
  rcases ite_e h with ⟨_, h⟩ | ⟨_, h⟩
  · obtain ⟨x31, e31, h⟩ := bd h
    have hi := (i_X8_readBetween e31 (rch_sub c_a0 r_a0 (by decide) hp)).trans hi
    have hp := (p_X8_readBetween e31).trans hp
    exact (i_X8_readSetting_J34 h (rch_sub c_a0 r_a0 (by decide) hp)).trans hi
  · obtain ⟨x20, e20, h⟩ := bd h
    have hi := (i_X8_readBetween e20 (rch_sub c_a0 r_a0 (by decide) hp)).trans hi
    have hp := (p_X8_readBetween e20).trans hp
    exact (i_X8_readSetting_J34 h (rch_sub c_a0 r_a0 (by decide) hp)).trans hi
theorem i_X8_readSetting {a0 : Nat} {l1 : Int32} {μ : Mm} {x : (Int32 × Mm)} {q : Nat} (h : f_X8_readSetting a0 l1 μ = some x) (c_a0 : ∀ p ∈ ([[], [0], [1]] : List (List Nat)), ¬ rch (mm_P μ) a0 p q) : mm_I ((fun (q : (Int32 × Mm)) => q.2) x) q = mm_I μ q := by
  have hi : mm_I μ q = mm_I μ q := rfl
  have hp : mm_P μ = mm_P μ := rfl
  have r_a0 : rch (mm_P μ) a0 [] a0 := rfl
  obtain ⟨_, h⟩ := ite_p h
  rcases ite_e h with ⟨_, h⟩ | ⟨_, h⟩
  · exact (i_X8_readSetting_J11 h (rch_sub c_a0 r_a0 (by decide) hp)).trans hi
  · exact (i_X8_readSetting_J11 h (rch_sub c_a0 r_a0 (by decide) hp)).trans hi
theorem i_X8_readTalk {a0 : Nat} {μ : Mm} {x : (Int32 × Mm)} {q : Nat} (h : f_X8_readTalk a0 μ = some x) (c_a0 : ∀ p ∈ ([[], [0], [1, 4], [1, 4, 0]] : List (List Nat)), ¬ rch (mm_P μ) a0 p q) : mm_I ((fun (q : (Int32 × Mm)) => q.2) x) q = mm_I μ q := by
  have hi : mm_I μ q = mm_I μ q := rfl
  have hp : mm_P μ = mm_P μ := rfl
  have r_a0 : rch (mm_P μ) a0 [] a0 := rfl
  obtain ⟨_, h⟩ := ite_p h
  obtain ⟨x1, e1, h⟩ := bd h
  have hi := (i_X8_readNamed e1 (rch_sub c_a0 r_a0 (by decide) hp)).trans hi
  have hp := (p_X8_readNamed e1).trans hp
  rcases ite_e h with ⟨_, h⟩ | ⟨_, h⟩
  · have h := Option.some.inj h
    subst h
    exact hi
  · obtain ⟨x13, e13, h⟩ := bd h
    have hi := (i_X8_readNamed e13 (rch_sub c_a0 r_a0 (by decide) hp)).trans hi
    have hp := (p_X8_readNamed e13).trans hp
    rcases ite_e h with ⟨_, h⟩ | ⟨_, h⟩
    · have h := Option.some.inj h
      subst h
      exact hi
    · rcases ite_e h with ⟨_, h⟩ | ⟨_, h⟩
      · obtain ⟨x31, e31, h⟩ := bd h
        have hi := (i_X8_fail e31 (rch_sub c_a0 r_a0 (by decide) hp)).trans hi
        have hp := (p_X8_fail e31).trans hp
        obtain ⟨_, h⟩ := ite_p h
        have h := Option.some.inj h
        subst h
        exact hi
      · obtain ⟨x39, e39, h⟩ := bd h
        have hi := (i_X8_readBetween e39 (rch_sub c_a0 r_a0 (by decide) hp)).trans hi
        have hp := (p_X8_readBetween e39).trans hp
        rcases ite_e h with ⟨_, h⟩ | ⟨_, h⟩
        · have h := Option.some.inj h
          subst h
          exact hi
        · obtain ⟨x51, e51, h⟩ := bd h
          have r_x51 := rch_f r_a0 e51 hp
          obtain ⟨x54, e54, h⟩ := bd h
          have r_x54 := rch_f r_x51 e54 hp
          obtain ⟨x61, e61, h⟩ := bd h
          have hi := (i_X2_add e61 (rch_sub c_a0 r_x54 (by decide) hp)).trans hi
          have hp := (p_X2_add e61).trans hp
          obtain ⟨x65, e65, h⟩ := bd h
          have hi := (i_X8_readMark e65 (rch_sub c_a0 r_a0 (by decide) hp)).trans hi
          have hp := (p_X8_readMark e65).trans hp
          obtain ⟨_, h⟩ := ite_p h
          have h := Option.some.inj h
          subst h
          exact hi
theorem i_X8_readTrade {a0 : Nat} {μ : Mm} {x : (Int32 × Mm)} {q : Nat} (h : f_X8_readTrade a0 μ = some x) (c_a0 : ∀ p ∈ ([[], [0], [1], [1, 2]] : List (List Nat)), ¬ rch (mm_P μ) a0 p q) : mm_I ((fun (q : (Int32 × Mm)) => q.2) x) q = mm_I μ q := by
  have hi : mm_I μ q = mm_I μ q := rfl
  have hp : mm_P μ = mm_P μ := rfl
  have r_a0 : rch (mm_P μ) a0 [] a0 := rfl
  obtain ⟨_, h⟩ := ite_p h
  obtain ⟨x1, e1, h⟩ := bd h
  have hi := (i_X8_readNamed e1 (rch_sub c_a0 r_a0 (by decide) hp)).trans hi
  have hp := (p_X8_readNamed e1).trans hp
  obtain ⟨x6, e6, h⟩ := bd h
  have r_x6 := rch_f r_a0 e6 hp
  obtain ⟨x10, e10, h⟩ := bd h
  rcases ite_e h with ⟨_, h⟩ | ⟨_, h⟩
  · have h := Option.some.inj h
    subst h
    exact hi
  · obtain ⟨x19, e19, h⟩ := bd h
    have r_x19 := rch_f r_a0 e19 hp
    obtain ⟨x22, e22, h⟩ := bd h
    rcases ite_e h with ⟨_, h⟩ | ⟨_, h⟩
    · obtain ⟨x42, e42, h⟩ := bd h
      have hi := (i_X8_readBetween e42 (rch_sub c_a0 r_a0 (by decide) hp)).trans hi
      have hp := (p_X8_readBetween e42).trans hp
      rcases ite_e h with ⟨_, h⟩ | ⟨_, h⟩
      · have h := Option.some.inj h
        subst h
        exact hi
      · obtain ⟨x54, e54, h⟩ := bd h
        have r_x54 := rch_f r_a0 e54 hp
        obtain ⟨x57, e57, h⟩ := bd h
        have r_x57 := rch_f r_x54 e57 hp
        obtain ⟨μ62, e62, h⟩ := bd h
        have hi := (ki_paI e62 (rch_ne c_a0 (by decide) r_x57)).trans hi
        have hp := (kp_paI e62).trans hp
        obtain ⟨x64, e64, h⟩ := bd h
        have r_x64 := rch_f r_a0 e64 hp
        obtain ⟨x68, e68, h⟩ := bd h
        obtain ⟨μ75, e75, h⟩ := bd h
        have hi := (ki_pfI e75 (rch_ne c_a0 (by decide) r_x64)).trans hi
        have hp := (kp_pfI e75).trans hp
        obtain ⟨x79, e79, h⟩ := bd h
        have hi := (i_X8_readMark e79 (rch_sub c_a0 r_a0 (by decide) hp)).trans hi
        have hp := (p_X8_readMark e79).trans hp
        obtain ⟨_, h⟩ := ite_p h
        have h := Option.some.inj h
        subst h
        exact hi
    · obtain ⟨x34, e34, h⟩ := bd h
      have hi := (i_X8_fail e34 (rch_sub c_a0 r_a0 (by decide) hp)).trans hi
      have hp := (p_X8_fail e34).trans hp
      obtain ⟨_, h⟩ := ite_p h
      have h := Option.some.inj h
      subst h
      exact hi
theorem i_X8_readWish {a0 : Nat} {l1 : Int32} {μ : Mm} {x : (Int32 × Mm)} {q : Nat} (h : f_X8_readWish a0 l1 μ = some x) (c_a0 : ∀ p ∈ ([[], [0], [1, 7], [1, 7, 0]] : List (List Nat)), ¬ rch (mm_P μ) a0 p q) : mm_I ((fun (q : (Int32 × Mm)) => q.2) x) q = mm_I μ q := by
  have hi : mm_I μ q = mm_I μ q := rfl
  have hp : mm_P μ = mm_P μ := rfl
  have r_a0 : rch (mm_P μ) a0 [] a0 := rfl
  obtain ⟨_, h⟩ := ite_p h
  obtain ⟨x1, e1, h⟩ := bd h
  have hi := (i_X8_readNamed e1 (rch_sub c_a0 r_a0 (by decide) hp)).trans hi
  have hp := (p_X8_readNamed e1).trans hp
  rcases ite_e h with ⟨_, h⟩ | ⟨_, h⟩
  · have h := Option.some.inj h
    subst h
    exact hi
  · obtain ⟨x16, e16, h⟩ := bd h
    have hi := (i_X8_readBetween e16 (rch_sub c_a0 r_a0 (by decide) hp)).trans hi
    have hp := (p_X8_readBetween e16).trans hp
    rcases ite_e h with ⟨_, h⟩ | ⟨_, h⟩
    · have h := Option.some.inj h
      subst h
      exact hi
    · obtain ⟨x31, e31, h⟩ := bd h
      have hi := (i_X8_readBetween e31 (rch_sub c_a0 r_a0 (by decide) hp)).trans hi
      have hp := (p_X8_readBetween e31).trans hp
      rcases ite_e h with ⟨_, h⟩ | ⟨_, h⟩
      · have h := Option.some.inj h
        subst h
        exact hi
      · obtain ⟨x45, e45, h⟩ := bd h
        have r_x45 := rch_f r_a0 e45 hp
        obtain ⟨x48, e48, h⟩ := bd h
        have r_x48 := rch_f r_x45 e48 hp
        obtain ⟨x56, e56, h⟩ := bd h
        have hi := (i_X2_add e56 (rch_sub c_a0 r_x48 (by decide) hp)).trans hi
        have hp := (p_X2_add e56).trans hp
        obtain ⟨x60, e60, h⟩ := bd h
        have hi := (i_X8_readMark e60 (rch_sub c_a0 r_a0 (by decide) hp)).trans hi
        have hp := (p_X8_readMark e60).trans hp
        obtain ⟨_, h⟩ := ite_p h
        have h := Option.some.inj h
        subst h
        exact hi
theorem i_X8_readClause_J40 {a0 : Nat} {l1 : Int32} {μ : Mm} {x : (Int32 × Mm)} {q : Nat} (h : f_X8_readClause_J40 a0 l1 μ = some x) (c_a0 : ∀ p ∈ ([[], [0], [1], [1, 1], [1, 2], [1, 3], [1, 3, 0], [1, 4], [1, 4, 0], [1, 5], [1, 5, 0], [1, 6], [1, 6, 0], [1, 7], [1, 7, 0]] : List (List Nat)), ¬ rch (mm_P μ) a0 p q) : mm_I ((fun (q : (Int32 × Mm)) => q.2) x) q = mm_I μ q := by
  have hi : mm_I μ q = mm_I μ q := rfl
  have hp : mm_P μ = mm_P μ := rfl
  have r_a0 : rch (mm_P μ) a0 [] a0 := rfl
  obtain ⟨x42, e42, h⟩ := bd h
  rcases ite_e h with ⟨_, h⟩ | ⟨_, h⟩
  · obtain ⟨x56, e56, h⟩ := bd h
    obtain ⟨μ63, e63, h⟩ := bd h
    have hi := (ki_pfI e63 (rch_ne c_a0 (by decide) r_a0)).trans hi
    have hp := (kp_pfI e63).trans hp
    rcases ite_e h with ⟨_, h⟩ | ⟨_, h⟩
    · obtain ⟨x117, e117, h⟩ := bd h
      have hi := (i_X8_readPerson e117 (rch_sub c_a0 r_a0 (by decide) hp)).trans hi
      have hp := (p_X8_readPerson e117).trans hp
      obtain ⟨_, h⟩ := ite_p h
      have h := Option.some.inj h
      subst h
      exact hi
    rcases ite_e h with ⟨_, h⟩ | ⟨_, h⟩
    · obtain ⟨x122, e122, h⟩ := bd h
      have hi := (i_X8_readDreams e122 (rch_sub c_a0 r_a0 (by decide) hp)).trans hi
      have hp := (p_X8_readDreams e122).trans hp
      obtain ⟨_, h⟩ := ite_p h
      have h := Option.some.inj h
      subst h
      exact hi
    rcases ite_e h with ⟨_, h⟩ | ⟨_, h⟩
    · obtain ⟨x128, e128, h⟩ := bd h
      have r_x128 := rch_f r_a0 e128 hp
      obtain ⟨x131, e131, h⟩ := bd h
      have r_x131 := rch_f r_x128 e131 hp
      obtain ⟨x134, e134, h⟩ := bd h
      have hi := (i_X8_readPersonAndDay e134 (rch_sub c_a0 r_a0 (by decide) hp) (rch_sub c_a0 r_x131 (by decide) hp)).trans hi
      have hp := (p_X8_readPersonAndDay e134).trans hp
      obtain ⟨_, h⟩ := ite_p h
      have h := Option.some.inj h
      subst h
      exact hi
    rcases ite_e h with ⟨_, h⟩ | ⟨_, h⟩
    · obtain ⟨x139, e139, h⟩ := bd h
      have hi := (i_X8_readTalk e139 (rch_sub c_a0 r_a0 (by decide) hp)).trans hi
      have hp := (p_X8_readTalk e139).trans hp
      obtain ⟨_, h⟩ := ite_p h
      have h := Option.some.inj h
      subst h
      exact hi
    rcases ite_e h with ⟨_, h⟩ | ⟨_, h⟩
    · obtain ⟨x145, e145, h⟩ := bd h
      have r_x145 := rch_f r_a0 e145 hp
      obtain ⟨x148, e148, h⟩ := bd h
      have r_x148 := rch_f r_x145 e148 hp
      obtain ⟨x151, e151, h⟩ := bd h
      have hi := (i_X8_readPersonAndDay e151 (rch_sub c_a0 r_a0 (by decide) hp) (rch_sub c_a0 r_x148 (by decide) hp)).trans hi
      have hp := (p_X8_readPersonAndDay e151).trans hp
      obtain ⟨_, h⟩ := ite_p h
      have h := Option.some.inj h
      subst h
      exact hi
    rcases ite_e h with ⟨_, h⟩ | ⟨_, h⟩
    · obtain ⟨x156, e156, h⟩ := bd h
      have hi := (i_X8_readDull e156 (rch_sub c_a0 r_a0 (by decide) hp)).trans hi
      have hp := (p_X8_readDull e156).trans hp
      obtain ⟨_, h⟩ := ite_p h
      have h := Option.some.inj h
      subst h
      exact hi
    rcases ite_e h with ⟨_, h⟩ | ⟨_, h⟩
    · obtain ⟨x162, e162, h⟩ := bd h
      have hi := (i_X8_readWish e162 (rch_sub c_a0 r_a0 (by decide) hp)).trans hi
      have hp := (p_X8_readWish e162).trans hp
      obtain ⟨_, h⟩ := ite_p h
      have h := Option.some.inj h
      subst h
      exact hi
    rcases ite_e h with ⟨_, h⟩ | ⟨_, h⟩
    · obtain ⟨x168, e168, h⟩ := bd h
      have hi := (i_X8_readWish e168 (rch_sub c_a0 r_a0 (by decide) hp)).trans hi
      have hp := (p_X8_readWish e168).trans hp
      obtain ⟨_, h⟩ := ite_p h
      have h := Option.some.inj h
      subst h
      exact hi
    rcases ite_e h with ⟨_, h⟩ | ⟨_, h⟩
    · obtain ⟨x173, e173, h⟩ := bd h
      have hi := (i_X8_readTrade e173 (rch_sub c_a0 r_a0 (by decide) hp)).trans hi
      have hp := (p_X8_readTrade e173).trans hp
      obtain ⟨_, h⟩ := ite_p h
      have h := Option.some.inj h
      subst h
      exact hi
    obtain ⟨x179, e179, h⟩ := bd h
    have hi := (i_X8_readSetting e179 (rch_sub c_a0 r_a0 (by decide) hp)).trans hi
    have hp := (p_X8_readSetting e179).trans hp
    obtain ⟨_, h⟩ := ite_p h
    have h := Option.some.inj h
    subst h
    exact hi
  · obtain ⟨x50, e50, h⟩ := bd h
    have hi := (i_X8_fail e50 (rch_sub c_a0 r_a0 (by decide) hp)).trans hi
    have hp := (p_X8_fail e50).trans hp
    obtain ⟨_, h⟩ := ite_p h
    have h := Option.some.inj h
    subst h
    exact hi
theorem i_X8_readClause {a0 : Nat} {μ : Mm} {x : (Int32 × Mm)} {q : Nat} (h : f_X8_readClause a0 μ = some x) (c_a0 : ∀ p ∈ ([[], [0], [1], [1, 1], [1, 2], [1, 3], [1, 3, 0], [1, 4], [1, 4, 0], [1, 5], [1, 5, 0], [1, 6], [1, 6, 0], [1, 7], [1, 7, 0]] : List (List Nat)), ¬ rch (mm_P μ) a0 p q) : mm_I ((fun (q : (Int32 × Mm)) => q.2) x) q = mm_I μ q := by
  have hi : mm_I μ q = mm_I μ q := rfl
  have hp : mm_P μ = mm_P μ := rfl
  have r_a0 : rch (mm_P μ) a0 [] a0 := rfl
  obtain ⟨_, h⟩ := ite_p h
  obtain ⟨x1, e1, h⟩ := bd h
  rcases ite_e h with ⟨_, h⟩ | ⟨_, h⟩
  · obtain ⟨x12, e12, h⟩ := bd h
    have hi := (i_X8_fail e12 (rch_sub c_a0 r_a0 (by decide) hp)).trans hi
    have hp := (p_X8_fail e12).trans hp
    obtain ⟨_, h⟩ := ite_p h
    have h := Option.some.inj h
    subst h
    exact hi
  · obtain ⟨x17, e17, h⟩ := bd h
    rcases ite_e h with ⟨_, h⟩ | ⟨_, h⟩
    · exact (i_X8_readClause_J40 h (rch_sub c_a0 r_a0 (by decide) hp)).trans hi
    · obtain ⟨x24, e24, h⟩ := bd h
      rcases ite_e h with ⟨_, h⟩ | ⟨_, h⟩
      · exact (i_X8_readClause_J40 h (rch_sub c_a0 r_a0 (by decide) hp)).trans hi
      · obtain ⟨x36, e36, h⟩ := bd h
        have hi := (i_X8_fail e36 (rch_sub c_a0 r_a0 (by decide) hp)).trans hi
        have hp := (p_X8_fail e36).trans hp
        obtain ⟨_, h⟩ := ite_p h
        have h := Option.some.inj h
        subst h
        exact hi
theorem i_X10_turn {a0 : Nat} {l1 : Int32} {μ : Mm} {x : (Int32 × Mm)} {q : Nat} (h : f_X10_turn a0 l1 μ = some x) (c_a0 : ∀ p ∈ ([[]] : List (List Nat)), ¬ rch (mm_P μ) a0 p q) : mm_I ((fun (q : (Int32 × Mm)) => q.2) x) q = mm_I μ q := by
  have hi : mm_I μ q = mm_I μ q := rfl
  have hp : mm_P μ = mm_P μ := rfl
  have r_a0 : rch (mm_P μ) a0 [] a0 := rfl
  obtain ⟨_, h⟩ := ite_p h
  rcases ite_e h with ⟨_, h⟩ | ⟨_, h⟩
  · have h := Option.some.inj h
    subst h
    exact hi
  · obtain ⟨x6, e6, h⟩ := bd h
    have r_x6 := rch_f r_a0 e6 hp
    obtain ⟨x9, e9, h⟩ := bd h
    have r_x9 := rch_f r_x6 e9 hp
    obtain ⟨x12, e12, h⟩ := bd h
    rcases ite_e h with ⟨_, h⟩ | ⟨_, h⟩
    · obtain ⟨x23, e23, h⟩ := bd h
      have r_x23 := rch_f r_a0 e23 hp
      obtain ⟨x26, e26, h⟩ := bd h
      have r_x26 := rch_f r_x23 e26 hp
      obtain ⟨x30, e30, h⟩ := bd h
      obtain ⟨μ33, e33, h⟩ := bd h
      have hi := (ki_pfI e33 (rch_ne c_a0 (by decide) r_a0)).trans hi
      have hp := (kp_pfI e33).trans hp
      have h := Option.some.inj h
      subst h
      exact hi
    · have h := Option.some.inj h
      subst h
      exact hi
theorem i_X11_act {a0 : Nat} {l1 : Int32} {l2 : Int32} {l3 : Int32} {l4 : Int32} {l5 : Int32} {μ : Mm} {x : (Int32 × Mm)} {q : Nat} (h : f_X11_act a0 l1 l2 l3 l4 l5 μ = some x) (c_a0 : ∀ p ∈ ([[], [49], [50], [51], [52], [53]] : List (List Nat)), ¬ rch (mm_P μ) a0 p q) : mm_I ((fun (q : (Int32 × Mm)) => q.2) x) q = mm_I μ q := by
  have hi : mm_I μ q = mm_I μ q := rfl
  have hp : mm_P μ = mm_P μ := rfl
  have r_a0 : rch (mm_P μ) a0 [] a0 := rfl
  obtain ⟨_, h⟩ := ite_p h
  obtain ⟨x2, e2, h⟩ := bd h
  obtain ⟨x8, e8, h⟩ := bd h
  rcases ite_e h with ⟨_, h⟩ | ⟨_, h⟩
  · have h := Option.some.inj h
    subst h
    exact hi
  · obtain ⟨x15, e15, h⟩ := bd h
    rcases ite_e h with ⟨_, h⟩ | ⟨_, h⟩
    · have h := Option.some.inj h
      subst h
      exact hi
    · obtain ⟨x23, e23, h⟩ := bd h
      rcases ite_e h with ⟨_, h⟩ | ⟨_, h⟩
      · have h := Option.some.inj h
        subst h
        exact hi
      · obtain ⟨x32, e32, h⟩ := bd h
        rcases ite_e h with ⟨_, h⟩ | ⟨_, h⟩
        · have h := Option.some.inj h
          subst h
          exact hi
        · obtain ⟨x42, e42, h⟩ := bd h
          rcases ite_e h with ⟨_, h⟩ | ⟨_, h⟩
          · have h := Option.some.inj h
            subst h
            exact hi
          · obtain ⟨x52, e52, h⟩ := bd h
            rcases ite_e h with ⟨_, h⟩ | ⟨_, h⟩
            · have h := Option.some.inj h
              subst h
              exact hi
            · obtain ⟨μ65, e65, h⟩ := bd h
              have hi := (ki_pfI e65 (rch_ne c_a0 (by decide) r_a0)).trans hi
              have hp := (kp_pfI e65).trans hp
              obtain ⟨x69, e69, h⟩ := bd h
              have r_x69 := rch_f r_a0 e69 hp
              obtain ⟨x73, e73, h⟩ := bd h
              obtain ⟨μ77, e77, h⟩ := bd h
              have hi := (ki_paI e77 (rch_ne c_a0 (by decide) r_x69)).trans hi
              have hp := (kp_paI e77).trans hp
              obtain ⟨x79, e79, h⟩ := bd h
              have r_x79 := rch_f r_a0 e79 hp
              obtain ⟨x83, e83, h⟩ := bd h
              obtain ⟨μ87, e87, h⟩ := bd h
              have hi := (ki_paI e87 (rch_ne c_a0 (by decide) r_x79)).trans hi
              have hp := (kp_paI e87).trans hp
              obtain ⟨x89, e89, h⟩ := bd h
              have r_x89 := rch_f r_a0 e89 hp
              obtain ⟨x93, e93, h⟩ := bd h
              obtain ⟨μ97, e97, h⟩ := bd h
              have hi := (ki_paI e97 (rch_ne c_a0 (by decide) r_x89)).trans hi
              have hp := (kp_paI e97).trans hp
              obtain ⟨x99, e99, h⟩ := bd h
              have r_x99 := rch_f r_a0 e99 hp
              obtain ⟨x103, e103, h⟩ := bd h
              obtain ⟨μ108, e108, h⟩ := bd h
              have hi := (ki_paI e108 (rch_ne c_a0 (by decide) r_x99)).trans hi
              have hp := (kp_paI e108).trans hp
              obtain ⟨x110, e110, h⟩ := bd h
              have r_x110 := rch_f r_a0 e110 hp
              obtain ⟨x114, e114, h⟩ := bd h
              obtain ⟨μ119, e119, h⟩ := bd h
              have hi := (ki_paI e119 (rch_ne c_a0 (by decide) r_x110)).trans hi
              have hp := (kp_paI e119).trans hp
              obtain ⟨x122, e122, h⟩ := bd h
              obtain ⟨μ127, e127, h⟩ := bd h
              have hi := (ki_pfI e127 (rch_ne c_a0 (by decide) r_a0)).trans hi
              have hp := (kp_pfI e127).trans hp
              obtain ⟨x131, e131, h⟩ := bd h
              have h := Option.some.inj h
              subst h
              exact hi
theorem i_X11_learns_J42 {a0 : Nat} {l1 : Int32} {l2 : Int32} {l3 : Int32} {l4 : Int32} {l5 : Int32} {k0 : Int32} {μ : Mm} {x : Mm} {q : Nat} (h : f_X11_learns_J42 a0 l1 l2 l3 l4 l5 k0 μ = some x) (c_a0 : ∀ p ∈ ([[], [35]] : List (List Nat)), ¬ rch (mm_P μ) a0 p q) : mm_I ((fun (q : Mm) => q) x) q = mm_I μ q := by
  have hi : mm_I μ q = mm_I μ q := rfl
  have hp : mm_P μ = mm_P μ := rfl
  have r_a0 : rch (mm_P μ) a0 [] a0 := rfl
  obtain ⟨x45, e45, h⟩ := bd h
  have r_x45 := rch_f r_a0 e45 hp
  obtain ⟨x50, e50, h⟩ := bd h
  obtain ⟨μ53, e53, h⟩ := bd h
  have hi := (ki_paI e53 (rch_ne c_a0 (by decide) r_x45)).trans hi
  have hp := (kp_paI e53).trans hp
  rcases ite_e h with ⟨_, h⟩ | ⟨_, h⟩
  · have h := Option.some.inj h
    subst h
    exact hi
  · obtain ⟨μ62, e62, h⟩ := bd h
    have hi := (ki_pfI e62 (rch_ne c_a0 (by decide) r_a0)).trans hi
    have hp := (kp_pfI e62).trans hp
    obtain ⟨μ68, e68, h⟩ := bd h
    have hi := (ki_pfI e68 (rch_ne c_a0 (by decide) r_a0)).trans hi
    have hp := (kp_pfI e68).trans hp
    obtain ⟨μ74, e74, h⟩ := bd h
    have hi := (ki_pfI e74 (rch_ne c_a0 (by decide) r_a0)).trans hi
    have hp := (kp_pfI e74).trans hp
    have h := Option.some.inj h
    subst h
    exact hi
theorem i_X11_learns_J41 {a0 : Nat} {l1 : Int32} {l2 : Int32} {l3 : Int32} {l4 : Int32} {l5 : Int32} {μ : Mm} {x : Mm} {q : Nat} (h : f_X11_learns_J41 a0 l1 l2 l3 l4 l5 μ = some x) (c_a0 : ∀ p ∈ ([[], [35]] : List (List Nat)), ¬ rch (mm_P μ) a0 p q) : mm_I ((fun (q : Mm) => q) x) q = mm_I μ q := by
  have hi : mm_I μ q = mm_I μ q := rfl
  have hp : mm_P μ = mm_P μ := rfl
  have r_a0 : rch (mm_P μ) a0 [] a0 := rfl
  exact (i_X11_learns_J42 h (rch_sub c_a0 r_a0 (by decide) hp)).trans hi
theorem i_X11_learns {a0 : Nat} {l1 : Int32} {l2 : Int32} {l3 : Int32} {l4 : Int32} {l5 : Int32} {μ : Mm} {x : Mm} {q : Nat} (h : f_X11_learns a0 l1 l2 l3 l4 l5 μ = some x) (c_a0 : ∀ p ∈ ([[], [35]] : List (List Nat)), ¬ rch (mm_P μ) a0 p q) : mm_I ((fun (q : Mm) => q) x) q = mm_I μ q := by
  have hi : mm_I μ q = mm_I μ q := rfl
  have hp : mm_P μ = mm_P μ := rfl
  have r_a0 : rch (mm_P μ) a0 [] a0 := rfl
  obtain ⟨_, h⟩ := ite_p h
  obtain ⟨x2, e2, h⟩ := bd h
  rcases ite_e h with ⟨_, h⟩ | ⟨_, h⟩
  · obtain ⟨x9, e9, h⟩ := bd h
    rcases ite_e h with ⟨_, h⟩ | ⟨_, h⟩
    · obtain ⟨x18, e18, h⟩ := bd h
      have r_x18 := rch_f r_a0 e18 hp
      obtain ⟨x22, e22, h⟩ := bd h
      obtain ⟨x27, e27, h⟩ := bd h
      rcases ite_e h with ⟨_, h⟩ | ⟨_, h⟩
      · exact (i_X11_learns_J42 h (rch_sub c_a0 r_a0 (by decide) hp)).trans hi
      · exact (i_X11_learns_J41 h (rch_sub c_a0 r_a0 (by decide) hp)).trans hi
    · exact (i_X11_learns_J41 h (rch_sub c_a0 r_a0 (by decide) hp)).trans hi
  · exact (i_X11_learns_J41 h (rch_sub c_a0 r_a0 (by decide) hp)).trans hi
theorem i_X11_byDay_J252 {a0 : Nat} {l3 : Int32} {l4 : Int32} {l5 : Int32} {μ : Mm} {x : ((Int32 × Mm) ⊕ (Mm))} {q : Nat} (h : f_X11_byDay_J252 a0 l3 l4 l5 μ = some x)  : mm_I ((sm (fun (q : Int32 × Mm) => q.2) (fun (q : Mm) => q)) x) q = mm_I μ q := by
  have hi : mm_I μ q = mm_I μ q := rfl
  have hp : mm_P μ = mm_P μ := rfl
  have r_a0 : rch (mm_P μ) a0 [] a0 := rfl
  obtain ⟨v252, e252, h⟩ := bd h
  have h := Option.some.inj h
  subst h
  exact hi
theorem i_X11_byDay_L151 {a0 : Nat} {l3 : Int32} {l4 : Int32} {s151 : Int32 × Mm} {x : ((Int32 × Mm) ⊕ (Mm))} {q : Nat} (h : f_X11_byDay_L151 a0 l3 l4 s151 = some x) (c_a0 : ∀ p ∈ ([[], [35]] : List (List Nat)), ¬ rch (mm_P ((fun (q : Int32 × Mm) => q.2) s151)) a0 p q) : mm_I (sm (fun (q : Int32 × Mm) => q.2) (fun (q : Mm) => q) x) q = mm_I ((fun (q : Int32 × Mm) => q.2) s151) q := by
  have hi : mm_I ((fun (q : Int32 × Mm) => q.2) s151) q = mm_I ((fun (q : Int32 × Mm) => q.2) s151) q := rfl
  have hp : mm_P ((fun (q : Int32 × Mm) => q.2) s151) = mm_P ((fun (q : Int32 × Mm) => q.2) s151) := rfl
  have r_a0 : rch (mm_P ((fun (q : Int32 × Mm) => q.2) s151)) a0 [] a0 := rfl
  obtain ⟨x154, e154, h⟩ := bd h
  have r_x154 := rch_f r_a0 e154 hp
  obtain ⟨x158, e158, h⟩ := bd h
  rcases ite_e h with ⟨_, h⟩ | ⟨_, h⟩
  · have h := Option.some.inj h
    subst h
    exact hi
  · rcases ite_e h with ⟨_, h⟩ | ⟨_, h⟩
    · have h := Option.some.inj h
      subst h
      exact hi
    · obtain ⟨x171, e171, h⟩ := bd h
      have r_x171 := rch_f r_a0 e171 hp
      obtain ⟨x176, e176, h⟩ := bd h
      obtain ⟨_, h⟩ := ite_n h
      rcases ite_e h with ⟨_, h⟩ | ⟨_, h⟩
      · obtain ⟨x185, e185, h⟩ := bd h
        have r_x185 := rch_f r_a0 e185 hp
        obtain ⟨x190, e190, h⟩ := bd h
        obtain ⟨x194, e194, h⟩ := bd h
        have r_x194 := rch_f r_a0 e194 hp
        obtain ⟨x199, e199, h⟩ := bd h
        obtain ⟨x203, e203, h⟩ := bd h
        have r_x203 := rch_f r_a0 e203 hp
        obtain ⟨x208, e208, h⟩ := bd h
        obtain ⟨x210, e210, h⟩ := bd h
        have r_x210 := rch_f r_a0 e210 hp
        obtain ⟨x215, e215, h⟩ := bd h
        obtain ⟨x218, e218, h⟩ := bd h
        have r_x218 := rch_f r_a0 e218 hp
        obtain ⟨x222, e222, h⟩ := bd h
        obtain ⟨v226, e226, h⟩ := bd h
        obtain ⟨x237, e237, h⟩ := bd h
        have hi := (i_X11_learns e237 (rch_sub c_a0 r_a0 (by decide) hp)).trans hi
        have hp := (p_X11_learns e237).trans hp
        obtain ⟨x249, e249, h⟩ := bd h
        have hi := (i_X11_learns e249 (rch_sub c_a0 r_a0 (by decide) hp)).trans hi
        have hp := (p_X11_learns e249).trans hp
        exact (i_X11_byDay_J252 h ).trans hi
      · exact (i_X11_byDay_J252 h ).trans hi
theorem i_X11_byDay_W151 {a0 : Nat} {l3 : Int32} {l4 : Int32} {s151 : Int32 × Mm} {b : Mm} {q : Nat} (h : whl (f_X11_byDay_L151 a0 l3 l4) s151 = some b) (c_a0 : ∀ p ∈ ([[], [35]] : List (List Nat)), ¬ rch (mm_P ((fun (q : Int32 × Mm) => q.2) s151)) a0 p q) : mm_I ((fun (q : Mm) => q) b) q = mm_I ((fun (q : Int32 × Mm) => q.2) s151) q := by
  have key := whl_inv (P := fun s' => mm_I ((fun (q : Int32 × Mm) => q.2) s') q = mm_I ((fun (q : Int32 × Mm) => q.2) s151) q ∧ mm_P ((fun (q : Int32 × Mm) => q.2) s') = mm_P ((fun (q : Int32 × Mm) => q.2) s151)) (Q := fun b' => mm_I ((fun (q : Mm) => q) b') q = mm_I ((fun (q : Int32 × Mm) => q.2) s151) q) (fun s' x hs1 hx => ?_) ⟨rfl, rfl⟩ h
  · exact key
  · obtain ⟨h1, hP⟩ := hs1
    have k1 := (i_X11_byDay_L151 hx (fun p hp hr => c_a0 p hp (by rw [← hP]; exact hr))).trans h1
    have k2 := (p_X11_byDay_L151 hx).trans hP
    cases x with
    | inl z => exact ⟨k1, k2⟩
    | inr z => exact k1
theorem i_X11_byDay_J148 {a0 : Nat} {l3 : Int32} {l4 : Int32} {μ : Mm} {x : Mm} {q : Nat} (h : f_X11_byDay_J148 a0 l3 l4 μ = some x) (c_a0 : ∀ p ∈ ([[], [35]] : List (List Nat)), ¬ rch (mm_P μ) a0 p q) : mm_I ((fun (q : Mm) => q) x) q = mm_I μ q := by
  have hi : mm_I μ q = mm_I μ q := rfl
  have hp : mm_P μ = mm_P μ := rfl
  have r_a0 : rch (mm_P μ) a0 [] a0 := rfl
  obtain ⟨b151, w151, h⟩ := bd h
  have hi := (i_X11_byDay_W151 w151 (rch_sub c_a0 r_a0 (by decide) hp)).trans hi
  have hp := (p_X11_byDay_W151 w151).trans hp
  have h := Option.some.inj h
  subst h
  exact hi
theorem i_X11_byDay_J142 {a0 : Nat} {l1 : Int64} {l3 : Int32} {l4 : Int32} {l5 : Int32} {μ : Mm} {x : ((Int32 × Mm) ⊕ (Mm))} {q : Nat} (h : f_X11_byDay_J142 a0 l1 l3 l4 l5 μ = some x)  : mm_I ((sm (fun (q : Int32 × Mm) => q.2) (fun (q : Mm) => q)) x) q = mm_I μ q := by
  have hi : mm_I μ q = mm_I μ q := rfl
  have hp : mm_P μ = mm_P μ := rfl
  have r_a0 : rch (mm_P μ) a0 [] a0 := rfl
  obtain ⟨v142, e142, h⟩ := bd h
  have h := Option.some.inj h
  subst h
  exact hi
theorem i_X11_byDay_L52 {a0 : Nat} {l1 : Int64} {l3 : Int32} {l4 : Int32} {s52 : Int32 × Mm} {x : ((Int32 × Mm) ⊕ (Mm))} {q : Nat} (h : f_X11_byDay_L52 a0 l1 l3 l4 s52 = some x) (c_a0 : ∀ p ∈ ([[], [35]] : List (List Nat)), ¬ rch (mm_P ((fun (q : Int32 × Mm) => q.2) s52)) a0 p q) : mm_I (sm (fun (q : Int32 × Mm) => q.2) (fun (q : Mm) => q) x) q = mm_I ((fun (q : Int32 × Mm) => q.2) s52) q := by
  have hi : mm_I ((fun (q : Int32 × Mm) => q.2) s52) q = mm_I ((fun (q : Int32 × Mm) => q.2) s52) q := rfl
  have hp : mm_P ((fun (q : Int32 × Mm) => q.2) s52) = mm_P ((fun (q : Int32 × Mm) => q.2) s52) := rfl
  have r_a0 : rch (mm_P ((fun (q : Int32 × Mm) => q.2) s52)) a0 [] a0 := rfl
  obtain ⟨x55, e55, h⟩ := bd h
  have r_x55 := rch_f r_a0 e55 hp
  obtain ⟨x59, e59, h⟩ := bd h
  rcases ite_e h with ⟨_, h⟩ | ⟨_, h⟩
  · have h := Option.some.inj h
    subst h
    exact hi
  · rcases ite_e h with ⟨_, h⟩ | ⟨_, h⟩
    · have h := Option.some.inj h
      subst h
      exact hi
    · obtain ⟨x72, e72, h⟩ := bd h
      have r_x72 := rch_f r_a0 e72 hp
      obtain ⟨x77, e77, h⟩ := bd h
      obtain ⟨x78, e78, h⟩ := bd h
      obtain ⟨x84, e84, h⟩ := bd h
      have r_x84 := rch_f r_a0 e84 hp
      obtain ⟨x89, e89, h⟩ := bd h
      rcases ite_e h with ⟨_, h⟩ | ⟨_, h⟩
      · rcases ite_e h with ⟨_, h⟩ | ⟨_, h⟩
        · exact (i_X11_byDay_J142 h ).trans hi
        · obtain ⟨x104, e104, h⟩ := bd h
          rcases ite_e h with ⟨_, h⟩ | ⟨_, h⟩
          · obtain ⟨x112, e112, h⟩ := bd h
            have r_x112 := rch_f r_a0 e112 hp
            obtain ⟨x117, e117, h⟩ := bd h
            obtain ⟨x119, e119, h⟩ := bd h
            have r_x119 := rch_f r_a0 e119 hp
            obtain ⟨x124, e124, h⟩ := bd h
            obtain ⟨x126, e126, h⟩ := bd h
            have r_x126 := rch_f r_a0 e126 hp
            obtain ⟨x131, e131, h⟩ := bd h
            obtain ⟨x139, e139, h⟩ := bd h
            have hi := (i_X11_learns e139 (rch_sub c_a0 r_a0 (by decide) hp)).trans hi
            have hp := (p_X11_learns e139).trans hp
            exact (i_X11_byDay_J142 h ).trans hi
          · exact (i_X11_byDay_J142 h ).trans hi
      · exact (i_X11_byDay_J142 h ).trans hi
theorem i_X11_byDay_W52 {a0 : Nat} {l1 : Int64} {l3 : Int32} {l4 : Int32} {s52 : Int32 × Mm} {b : Mm} {q : Nat} (h : whl (f_X11_byDay_L52 a0 l1 l3 l4) s52 = some b) (c_a0 : ∀ p ∈ ([[], [35]] : List (List Nat)), ¬ rch (mm_P ((fun (q : Int32 × Mm) => q.2) s52)) a0 p q) : mm_I ((fun (q : Mm) => q) b) q = mm_I ((fun (q : Int32 × Mm) => q.2) s52) q := by
  have key := whl_inv (P := fun s' => mm_I ((fun (q : Int32 × Mm) => q.2) s') q = mm_I ((fun (q : Int32 × Mm) => q.2) s52) q ∧ mm_P ((fun (q : Int32 × Mm) => q.2) s') = mm_P ((fun (q : Int32 × Mm) => q.2) s52)) (Q := fun b' => mm_I ((fun (q : Mm) => q) b') q = mm_I ((fun (q : Int32 × Mm) => q.2) s52) q) (fun s' x hs1 hx => ?_) ⟨rfl, rfl⟩ h
  · exact key
  · obtain ⟨h1, hP⟩ := hs1
    have k1 := (i_X11_byDay_L52 hx (fun p hp hr => c_a0 p hp (by rw [← hP]; exact hr))).trans h1
    have k2 := (p_X11_byDay_L52 hx).trans hP
    cases x with
    | inl z => exact ⟨k1, k2⟩
    | inr z => exact k1
theorem i_X11_byDay_J49 {a0 : Nat} {l1 : Int64} {l3 : Int32} {l4 : Int32} {μ : Mm} {x : Mm} {q : Nat} (h : f_X11_byDay_J49 a0 l1 l3 l4 μ = some x) (c_a0 : ∀ p ∈ ([[], [35]] : List (List Nat)), ¬ rch (mm_P μ) a0 p q) : mm_I ((fun (q : Mm) => q) x) q = mm_I μ q := by
  have hi : mm_I μ q = mm_I μ q := rfl
  have hp : mm_P μ = mm_P μ := rfl
  have r_a0 : rch (mm_P μ) a0 [] a0 := rfl
  obtain ⟨b52, w52, h⟩ := bd h
  have hi := (i_X11_byDay_W52 w52 (rch_sub c_a0 r_a0 (by decide) hp)).trans hi
  have hp := (p_X11_byDay_W52 w52).trans hp
  exact (i_X11_byDay_J148 h (rch_sub c_a0 r_a0 (by decide) hp)).trans hi
theorem i_X11_byDay_J43 {a0 : Nat} {l1 : Int64} {l3 : Int32} {l4 : Int32} {l5 : Int32} {μ : Mm} {x : ((Int32 × Mm) ⊕ (Mm))} {q : Nat} (h : f_X11_byDay_J43 a0 l1 l3 l4 l5 μ = some x)  : mm_I ((sm (fun (q : Int32 × Mm) => q.2) (fun (q : Mm) => q)) x) q = mm_I μ q := by
  have hi : mm_I μ q = mm_I μ q := rfl
  have hp : mm_P μ = mm_P μ := rfl
  have r_a0 : rch (mm_P μ) a0 [] a0 := rfl
  obtain ⟨v43, e43, h⟩ := bd h
  have h := Option.some.inj h
  subst h
  exact hi
theorem i_X11_byDay_L3 {a0 : Nat} {l1 : Int64} {l3 : Int32} {l4 : Int32} {s3 : Int32 × Mm} {x : ((Int32 × Mm) ⊕ (Mm))} {q : Nat} (h : f_X11_byDay_L3 a0 l1 l3 l4 s3 = some x) (c_a0 : ∀ p ∈ ([[], [35]] : List (List Nat)), ¬ rch (mm_P ((fun (q : Int32 × Mm) => q.2) s3)) a0 p q) : mm_I (sm (fun (q : Int32 × Mm) => q.2) (fun (q : Mm) => q) x) q = mm_I ((fun (q : Int32 × Mm) => q.2) s3) q := by
  have hi : mm_I ((fun (q : Int32 × Mm) => q.2) s3) q = mm_I ((fun (q : Int32 × Mm) => q.2) s3) q := rfl
  have hp : mm_P ((fun (q : Int32 × Mm) => q.2) s3) = mm_P ((fun (q : Int32 × Mm) => q.2) s3) := rfl
  have r_a0 : rch (mm_P ((fun (q : Int32 × Mm) => q.2) s3)) a0 [] a0 := rfl
  obtain ⟨x6, e6, h⟩ := bd h
  have r_x6 := rch_f r_a0 e6 hp
  obtain ⟨x10, e10, h⟩ := bd h
  rcases ite_e h with ⟨_, h⟩ | ⟨_, h⟩
  · have h := Option.some.inj h
    subst h
    exact hi
  · obtain ⟨x15, e15, h⟩ := bd h
    have r_x15 := rch_f r_a0 e15 hp
    obtain ⟨x20, e20, h⟩ := bd h
    rcases ite_e h with ⟨_, h⟩ | ⟨_, h⟩
    · obtain ⟨x27, e27, h⟩ := bd h
      have r_x27 := rch_f r_a0 e27 hp
      obtain ⟨x32, e32, h⟩ := bd h
      obtain ⟨x40, e40, h⟩ := bd h
      have hi := (i_X11_learns e40 (rch_sub c_a0 r_a0 (by decide) hp)).trans hi
      have hp := (p_X11_learns e40).trans hp
      exact (i_X11_byDay_J43 h ).trans hi
    · exact (i_X11_byDay_J43 h ).trans hi
theorem i_X11_byDay_W3 {a0 : Nat} {l1 : Int64} {l3 : Int32} {l4 : Int32} {s3 : Int32 × Mm} {b : Mm} {q : Nat} (h : whl (f_X11_byDay_L3 a0 l1 l3 l4) s3 = some b) (c_a0 : ∀ p ∈ ([[], [35]] : List (List Nat)), ¬ rch (mm_P ((fun (q : Int32 × Mm) => q.2) s3)) a0 p q) : mm_I ((fun (q : Mm) => q) b) q = mm_I ((fun (q : Int32 × Mm) => q.2) s3) q := by
  have key := whl_inv (P := fun s' => mm_I ((fun (q : Int32 × Mm) => q.2) s') q = mm_I ((fun (q : Int32 × Mm) => q.2) s3) q ∧ mm_P ((fun (q : Int32 × Mm) => q.2) s') = mm_P ((fun (q : Int32 × Mm) => q.2) s3)) (Q := fun b' => mm_I ((fun (q : Mm) => q) b') q = mm_I ((fun (q : Int32 × Mm) => q.2) s3) q) (fun s' x hs1 hx => ?_) ⟨rfl, rfl⟩ h
  · exact key
  · obtain ⟨h1, hP⟩ := hs1
    have k1 := (i_X11_byDay_L3 hx (fun p hp hr => c_a0 p hp (by rw [← hP]; exact hr))).trans h1
    have k2 := (p_X11_byDay_L3 hx).trans hP
    cases x with
    | inl z => exact ⟨k1, k2⟩
    | inr z => exact k1
theorem i_X11_byDay {a0 : Nat} {l1 : Int64} {l3 : Int32} {l4 : Int32} {μ : Mm} {x : Mm} {q : Nat} (h : f_X11_byDay a0 l1 l3 l4 μ = some x) (c_a0 : ∀ p ∈ ([[], [35]] : List (List Nat)), ¬ rch (mm_P μ) a0 p q) : mm_I ((fun (q : Mm) => q) x) q = mm_I μ q := by
  have hi : mm_I μ q = mm_I μ q := rfl
  have hp : mm_P μ = mm_P μ := rfl
  have r_a0 : rch (mm_P μ) a0 [] a0 := rfl
  obtain ⟨_, h⟩ := ite_p h
  obtain ⟨b3, w3, h⟩ := bd h
  have hi := (i_X11_byDay_W3 w3 (rch_sub c_a0 r_a0 (by decide) hp)).trans hi
  have hp := (p_X11_byDay_W3 w3).trans hp
  exact (i_X11_byDay_J49 h (rch_sub c_a0 r_a0 (by decide) hp)).trans hi
theorem i_X11_byNight_J103 {a0 : Nat} {l1 : Int64} {l3 : Int32} {l5 : Int32} {μ : Mm} {x : ((Int32 × Mm) ⊕ (Mm))} {q : Nat} (h : f_X11_byNight_J103 a0 l1 l3 l5 μ = some x)  : mm_I ((sm (fun (q : Int32 × Mm) => q.2) (fun (q : Mm) => q)) x) q = mm_I μ q := by
  have hi : mm_I μ q = mm_I μ q := rfl
  have hp : mm_P μ = mm_P μ := rfl
  have r_a0 : rch (mm_P μ) a0 [] a0 := rfl
  obtain ⟨v103, e103, h⟩ := bd h
  have h := Option.some.inj h
  subst h
  exact hi
theorem i_X11_byNight_L41 {a0 : Nat} {l1 : Int64} {l3 : Int32} {s41 : Int32 × Mm} {x : ((Int32 × Mm) ⊕ (Mm))} {q : Nat} (h : f_X11_byNight_L41 a0 l1 l3 s41 = some x) (c_a0 : ∀ p ∈ ([[], [35]] : List (List Nat)), ¬ rch (mm_P ((fun (q : Int32 × Mm) => q.2) s41)) a0 p q) : mm_I (sm (fun (q : Int32 × Mm) => q.2) (fun (q : Mm) => q) x) q = mm_I ((fun (q : Int32 × Mm) => q.2) s41) q := by
  have hi : mm_I ((fun (q : Int32 × Mm) => q.2) s41) q = mm_I ((fun (q : Int32 × Mm) => q.2) s41) q := rfl
  have hp : mm_P ((fun (q : Int32 × Mm) => q.2) s41) = mm_P ((fun (q : Int32 × Mm) => q.2) s41) := rfl
  have r_a0 : rch (mm_P ((fun (q : Int32 × Mm) => q.2) s41)) a0 [] a0 := rfl
  obtain ⟨x44, e44, h⟩ := bd h
  have r_x44 := rch_f r_a0 e44 hp
  obtain ⟨x48, e48, h⟩ := bd h
  rcases ite_e h with ⟨_, h⟩ | ⟨_, h⟩
  · have h := Option.some.inj h
    subst h
    exact hi
  · obtain ⟨x55, e55, h⟩ := bd h
    rcases ite_e h with ⟨_, h⟩ | ⟨_, h⟩
    · exact (i_X11_byNight_J103 h ).trans hi
    · obtain ⟨x70, e70, h⟩ := bd h
      rcases ite_e h with ⟨_, h⟩ | ⟨_, h⟩
      · obtain ⟨x80, e80, h⟩ := bd h
        have r_x80 := rch_f r_a0 e80 hp
        obtain ⟨x85, e85, h⟩ := bd h
        obtain ⟨x87, e87, h⟩ := bd h
        have r_x87 := rch_f r_a0 e87 hp
        obtain ⟨x92, e92, h⟩ := bd h
        obtain ⟨x100, e100, h⟩ := bd h
        have hi := (i_X11_learns e100 (rch_sub c_a0 r_a0 (by decide) hp)).trans hi
        have hp := (p_X11_learns e100).trans hp
        exact (i_X11_byNight_J103 h ).trans hi
      · exact (i_X11_byNight_J103 h ).trans hi
theorem i_X11_byNight_W41 {a0 : Nat} {l1 : Int64} {l3 : Int32} {s41 : Int32 × Mm} {b : Mm} {q : Nat} (h : whl (f_X11_byNight_L41 a0 l1 l3) s41 = some b) (c_a0 : ∀ p ∈ ([[], [35]] : List (List Nat)), ¬ rch (mm_P ((fun (q : Int32 × Mm) => q.2) s41)) a0 p q) : mm_I ((fun (q : Mm) => q) b) q = mm_I ((fun (q : Int32 × Mm) => q.2) s41) q := by
  have key := whl_inv (P := fun s' => mm_I ((fun (q : Int32 × Mm) => q.2) s') q = mm_I ((fun (q : Int32 × Mm) => q.2) s41) q ∧ mm_P ((fun (q : Int32 × Mm) => q.2) s') = mm_P ((fun (q : Int32 × Mm) => q.2) s41)) (Q := fun b' => mm_I ((fun (q : Mm) => q) b') q = mm_I ((fun (q : Int32 × Mm) => q.2) s41) q) (fun s' x hs1 hx => ?_) ⟨rfl, rfl⟩ h
  · exact key
  · obtain ⟨h1, hP⟩ := hs1
    have k1 := (i_X11_byNight_L41 hx (fun p hp hr => c_a0 p hp (by rw [← hP]; exact hr))).trans h1
    have k2 := (p_X11_byNight_L41 hx).trans hP
    cases x with
    | inl z => exact ⟨k1, k2⟩
    | inr z => exact k1
theorem i_X11_byNight_J38 {a0 : Nat} {l1 : Int64} {l3 : Int32} {μ : Mm} {x : Mm} {q : Nat} (h : f_X11_byNight_J38 a0 l1 l3 μ = some x) (c_a0 : ∀ p ∈ ([[], [35]] : List (List Nat)), ¬ rch (mm_P μ) a0 p q) : mm_I ((fun (q : Mm) => q) x) q = mm_I μ q := by
  have hi : mm_I μ q = mm_I μ q := rfl
  have hp : mm_P μ = mm_P μ := rfl
  have r_a0 : rch (mm_P μ) a0 [] a0 := rfl
  obtain ⟨b41, w41, h⟩ := bd h
  have hi := (i_X11_byNight_W41 w41 (rch_sub c_a0 r_a0 (by decide) hp)).trans hi
  have hp := (p_X11_byNight_W41 w41).trans hp
  have h := Option.some.inj h
  subst h
  exact hi
theorem i_X11_byNight_L11 {a0 : Nat} {l1 : Int64} {l3 : Int32} {s11 : Int32 × Mm} {x : ((Int32 × Mm) ⊕ (Mm))} {q : Nat} (h : f_X11_byNight_L11 a0 l1 l3 s11 = some x) (c_a0 : ∀ p ∈ ([[36]] : List (List Nat)), ¬ rch (mm_P ((fun (q : Int32 × Mm) => q.2) s11)) a0 p q) : mm_I (sm (fun (q : Int32 × Mm) => q.2) (fun (q : Mm) => q) x) q = mm_I ((fun (q : Int32 × Mm) => q.2) s11) q := by
  have hi : mm_I ((fun (q : Int32 × Mm) => q.2) s11) q = mm_I ((fun (q : Int32 × Mm) => q.2) s11) q := rfl
  have hp : mm_P ((fun (q : Int32 × Mm) => q.2) s11) = mm_P ((fun (q : Int32 × Mm) => q.2) s11) := rfl
  have r_a0 : rch (mm_P ((fun (q : Int32 × Mm) => q.2) s11)) a0 [] a0 := rfl
  rcases ite_e h with ⟨_, h⟩ | ⟨_, h⟩
  · have h := Option.some.inj h
    subst h
    exact hi
  · obtain ⟨x19, e19, h⟩ := bd h
    have r_x19 := rch_f r_a0 e19 hp
    obtain ⟨x25, e25, h⟩ := bd h
    have r_x25 := rch_f r_a0 e25 hp
    obtain ⟨x30, e30, h⟩ := bd h
    obtain ⟨μ31, e31, h⟩ := bd h
    have hi := (ki_paI e31 (rch_ne c_a0 (by decide) r_x19)).trans hi
    have hp := (kp_paI e31).trans hp
    obtain ⟨v32, e32, h⟩ := bd h
    have h := Option.some.inj h
    subst h
    exact hi
theorem i_X11_byNight_W11 {a0 : Nat} {l1 : Int64} {l3 : Int32} {s11 : Int32 × Mm} {b : Mm} {q : Nat} (h : whl (f_X11_byNight_L11 a0 l1 l3) s11 = some b) (c_a0 : ∀ p ∈ ([[36]] : List (List Nat)), ¬ rch (mm_P ((fun (q : Int32 × Mm) => q.2) s11)) a0 p q) : mm_I ((fun (q : Mm) => q) b) q = mm_I ((fun (q : Int32 × Mm) => q.2) s11) q := by
  have key := whl_inv (P := fun s' => mm_I ((fun (q : Int32 × Mm) => q.2) s') q = mm_I ((fun (q : Int32 × Mm) => q.2) s11) q ∧ mm_P ((fun (q : Int32 × Mm) => q.2) s') = mm_P ((fun (q : Int32 × Mm) => q.2) s11)) (Q := fun b' => mm_I ((fun (q : Mm) => q) b') q = mm_I ((fun (q : Int32 × Mm) => q.2) s11) q) (fun s' x hs1 hx => ?_) ⟨rfl, rfl⟩ h
  · exact key
  · obtain ⟨h1, hP⟩ := hs1
    have k1 := (i_X11_byNight_L11 hx (fun p hp hr => c_a0 p hp (by rw [← hP]; exact hr))).trans h1
    have k2 := (p_X11_byNight_L11 hx).trans hP
    cases x with
    | inl z => exact ⟨k1, k2⟩
    | inr z => exact k1
theorem i_X11_byNight {a0 : Nat} {l1 : Int64} {l3 : Int32} {l4 : Int32} {μ : Mm} {x : Mm} {q : Nat} (h : f_X11_byNight a0 l1 l3 l4 μ = some x) (c_a0 : ∀ p ∈ ([[], [35], [36]] : List (List Nat)), ¬ rch (mm_P μ) a0 p q) : mm_I ((fun (q : Mm) => q) x) q = mm_I μ q := by
  have hi : mm_I μ q = mm_I μ q := rfl
  have hp : mm_P μ = mm_P μ := rfl
  have r_a0 : rch (mm_P μ) a0 [] a0 := rfl
  obtain ⟨_, h⟩ := ite_p h
  rcases ite_e h with ⟨_, h⟩ | ⟨_, h⟩
  · have h := Option.some.inj h
    subst h
    exact hi
  · obtain ⟨b11, w11, h⟩ := bd h
    have hi := (i_X11_byNight_W11 w11 (rch_sub c_a0 r_a0 (by decide) hp)).trans hi
    have hp := (p_X11_byNight_W11 w11).trans hp
    exact (i_X11_byNight_J38 h (rch_sub c_a0 r_a0 (by decide) hp)).trans hi
theorem i_X11_forget_J21 {a0 : Nat} {μ : Mm} {x : Mm} {q : Nat} (h : f_X11_forget_J21 a0 μ = some x) (c_a0 : ∀ p ∈ ([[]] : List (List Nat)), ¬ rch (mm_P μ) a0 p q) : mm_I ((fun (q : Mm) => q) x) q = mm_I μ q := by
  have hi : mm_I μ q = mm_I μ q := rfl
  have hp : mm_P μ = mm_P μ := rfl
  have r_a0 : rch (mm_P μ) a0 [] a0 := rfl
  obtain ⟨μ23, e23, h⟩ := bd h
  have hi := (ki_pfI e23 (rch_ne c_a0 (by decide) r_a0)).trans hi
  have hp := (kp_pfI e23).trans hp
  obtain ⟨μ28, e28, h⟩ := bd h
  have hi := (ki_pfI e28 (rch_ne c_a0 (by decide) r_a0)).trans hi
  have hp := (kp_pfI e28).trans hp
  obtain ⟨μ33, e33, h⟩ := bd h
  have hi := (ki_pfI e33 (rch_ne c_a0 (by decide) r_a0)).trans hi
  have hp := (kp_pfI e33).trans hp
  have h := Option.some.inj h
  subst h
  exact hi
theorem i_X11_forget_L2 {a0 : Nat} {s2 : Int32 × Mm} {x : ((Int32 × Mm) ⊕ (Mm))} {q : Nat} (h : f_X11_forget_L2 a0 s2 = some x) (c_a0 : ∀ p ∈ ([[35]] : List (List Nat)), ¬ rch (mm_P ((fun (q : Int32 × Mm) => q.2) s2)) a0 p q) : mm_I (sm (fun (q : Int32 × Mm) => q.2) (fun (q : Mm) => q) x) q = mm_I ((fun (q : Int32 × Mm) => q.2) s2) q := by
  have hi : mm_I ((fun (q : Int32 × Mm) => q.2) s2) q = mm_I ((fun (q : Int32 × Mm) => q.2) s2) q := rfl
  have hp : mm_P ((fun (q : Int32 × Mm) => q.2) s2) = mm_P ((fun (q : Int32 × Mm) => q.2) s2) := rfl
  have r_a0 : rch (mm_P ((fun (q : Int32 × Mm) => q.2) s2)) a0 [] a0 := rfl
  rcases ite_e h with ⟨_, h⟩ | ⟨_, h⟩
  · have h := Option.some.inj h
    subst h
    exact hi
  · obtain ⟨x9, e9, h⟩ := bd h
    have r_x9 := rch_f r_a0 e9 hp
    obtain ⟨μ14, e14, h⟩ := bd h
    have hi := (ki_paI e14 (rch_ne c_a0 (by decide) r_x9)).trans hi
    have hp := (kp_paI e14).trans hp
    obtain ⟨v15, e15, h⟩ := bd h
    have h := Option.some.inj h
    subst h
    exact hi
theorem i_X11_forget_W2 {a0 : Nat} {s2 : Int32 × Mm} {b : Mm} {q : Nat} (h : whl (f_X11_forget_L2 a0) s2 = some b) (c_a0 : ∀ p ∈ ([[35]] : List (List Nat)), ¬ rch (mm_P ((fun (q : Int32 × Mm) => q.2) s2)) a0 p q) : mm_I ((fun (q : Mm) => q) b) q = mm_I ((fun (q : Int32 × Mm) => q.2) s2) q := by
  have key := whl_inv (P := fun s' => mm_I ((fun (q : Int32 × Mm) => q.2) s') q = mm_I ((fun (q : Int32 × Mm) => q.2) s2) q ∧ mm_P ((fun (q : Int32 × Mm) => q.2) s') = mm_P ((fun (q : Int32 × Mm) => q.2) s2)) (Q := fun b' => mm_I ((fun (q : Mm) => q) b') q = mm_I ((fun (q : Int32 × Mm) => q.2) s2) q) (fun s' x hs1 hx => ?_) ⟨rfl, rfl⟩ h
  · exact key
  · obtain ⟨h1, hP⟩ := hs1
    have k1 := (i_X11_forget_L2 hx (fun p hp hr => c_a0 p hp (by rw [← hP]; exact hr))).trans h1
    have k2 := (p_X11_forget_L2 hx).trans hP
    cases x with
    | inl z => exact ⟨k1, k2⟩
    | inr z => exact k1
theorem i_X11_forget {a0 : Nat} {μ : Mm} {x : Mm} {q : Nat} (h : f_X11_forget a0 μ = some x) (c_a0 : ∀ p ∈ ([[], [35]] : List (List Nat)), ¬ rch (mm_P μ) a0 p q) : mm_I ((fun (q : Mm) => q) x) q = mm_I μ q := by
  have hi : mm_I μ q = mm_I μ q := rfl
  have hp : mm_P μ = mm_P μ := rfl
  have r_a0 : rch (mm_P μ) a0 [] a0 := rfl
  obtain ⟨_, h⟩ := ite_p h
  obtain ⟨b2, w2, h⟩ := bd h
  have hi := (i_X11_forget_W2 w2 (rch_sub c_a0 r_a0 (by decide) hp)).trans hi
  have hp := (p_X11_forget_W2 w2).trans hp
  exact (i_X11_forget_J21 h (rch_sub c_a0 r_a0 (by decide) hp)).trans hi
theorem i_X11_all_L24 {a0 : Nat} {l1 : Int32} {l2 : Int32} {s24 : Int32 × Mm} {x : ((Int32 × Mm) ⊕ ((Int32 × Mm) ⊕ (Mm)))} {q : Nat} (h : f_X11_all_L24 a0 l1 l2 s24 = some x) (c_a0 : ∀ p ∈ ([[], [35], [36]] : List (List Nat)), ¬ rch (mm_P ((fun (q : Int32 × Mm) => q.2) s24)) a0 p q) : mm_I (sm (fun (q : Int32 × Mm) => q.2) (sm (fun (q : Int32 × Mm) => q.2) (fun (q : Mm) => q)) x) q = mm_I ((fun (q : Int32 × Mm) => q.2) s24) q := by
  have hi : mm_I ((fun (q : Int32 × Mm) => q.2) s24) q = mm_I ((fun (q : Int32 × Mm) => q.2) s24) q := rfl
  have hp : mm_P ((fun (q : Int32 × Mm) => q.2) s24) = mm_P ((fun (q : Int32 × Mm) => q.2) s24) := rfl
  have r_a0 : rch (mm_P ((fun (q : Int32 × Mm) => q.2) s24)) a0 [] a0 := rfl
  rcases ite_e h with ⟨_, h⟩ | ⟨_, h⟩
  · have h := Option.some.inj h
    subst h
    exact hi
  · obtain ⟨x32, e32, h⟩ := bd h
    have r_x32 := rch_f r_a0 e32 hp
    obtain ⟨x36, e36, h⟩ := bd h
    obtain ⟨x39, e39, h⟩ := bd h
    obtain ⟨x42, e42, h⟩ := bd h
    have hi := (i_X11_byDay e42 (rch_sub c_a0 r_a0 (by decide) hp)).trans hi
    have hp := (p_X11_byDay e42).trans hp
    obtain ⟨x47, e47, h⟩ := bd h
    have r_x47 := rch_f r_a0 e47 hp
    obtain ⟨x51, e51, h⟩ := bd h
    obtain ⟨x54, e54, h⟩ := bd h
    obtain ⟨x57, e57, h⟩ := bd h
    have hi := (i_X11_byNight e57 (rch_sub c_a0 r_a0 (by decide) hp)).trans hi
    have hp := (p_X11_byNight e57).trans hp
    obtain ⟨x62, e62, h⟩ := bd h
    obtain ⟨x66, e66, h⟩ := bd h
    have r_x66 := rch_f r_a0 e66 hp
    obtain ⟨x70, e70, h⟩ := bd h
    rcases ite_e h with ⟨_, h⟩ | ⟨_, h⟩
    · have h := Option.some.inj h
      subst h
      exact hi
    · obtain ⟨v76, e76, h⟩ := bd h
      have h := Option.some.inj h
      subst h
      exact hi
theorem i_X11_all_W24 {a0 : Nat} {l1 : Int32} {l2 : Int32} {s24 : Int32 × Mm} {b : (Int32 × Mm) ⊕ (Mm)} {q : Nat} (h : whl (f_X11_all_L24 a0 l1 l2) s24 = some b) (c_a0 : ∀ p ∈ ([[], [35], [36]] : List (List Nat)), ¬ rch (mm_P ((fun (q : Int32 × Mm) => q.2) s24)) a0 p q) : mm_I ((sm (fun (q : Int32 × Mm) => q.2) (fun (q : Mm) => q)) b) q = mm_I ((fun (q : Int32 × Mm) => q.2) s24) q := by
  have key := whl_inv (P := fun s' => mm_I ((fun (q : Int32 × Mm) => q.2) s') q = mm_I ((fun (q : Int32 × Mm) => q.2) s24) q ∧ mm_P ((fun (q : Int32 × Mm) => q.2) s') = mm_P ((fun (q : Int32 × Mm) => q.2) s24)) (Q := fun b' => mm_I ((sm (fun (q : Int32 × Mm) => q.2) (fun (q : Mm) => q)) b') q = mm_I ((fun (q : Int32 × Mm) => q.2) s24) q) (fun s' x hs1 hx => ?_) ⟨rfl, rfl⟩ h
  · exact key
  · obtain ⟨h1, hP⟩ := hs1
    have k1 := (i_X11_all_L24 hx (fun p hp hr => c_a0 p hp (by rw [← hP]; exact hr))).trans h1
    have k2 := (p_X11_all_L24 hx).trans hP
    cases x with
    | inl z => exact ⟨k1, k2⟩
    | inr z => exact k1
theorem i_X11_all {a0 : Nat} {l1 : Int32} {l2 : Int32} {μ : Mm} {x : (Int32 × Mm)} {q : Nat} (h : f_X11_all a0 l1 l2 μ = some x) (c_a0 : ∀ p ∈ ([[], [35], [36]] : List (List Nat)), ¬ rch (mm_P μ) a0 p q) : mm_I ((fun (q : (Int32 × Mm)) => q.2) x) q = mm_I μ q := by
  have hi : mm_I μ q = mm_I μ q := rfl
  have hp : mm_P μ = mm_P μ := rfl
  have r_a0 : rch (mm_P μ) a0 [] a0 := rfl
  obtain ⟨_, h⟩ := ite_p h
  obtain ⟨x2, e2, h⟩ := bd h
  rcases ite_e h with ⟨_, h⟩ | ⟨_, h⟩
  · have h := Option.some.inj h
    subst h
    exact hi
  · obtain ⟨x9, e9, h⟩ := bd h
    rcases ite_e h with ⟨_, h⟩ | ⟨_, h⟩
    · have h := Option.some.inj h
      subst h
      exact hi
    · obtain ⟨x19, e19, h⟩ := bd h
      have hi := (i_X11_forget e19 (rch_sub c_a0 r_a0 (by decide) hp)).trans hi
      have hp := (p_X11_forget e19).trans hp
      obtain ⟨b24, w24, h⟩ := bd h
      have hi := (i_X11_all_W24 w24 (rch_sub c_a0 r_a0 (by decide) hp)).trans hi
      have hp := (p_X11_all_W24 w24).trans hp
      rcases b24 with b24 | b24
      · have h := Option.some.inj h
        subst h
        exact hi
      · have h := Option.some.inj h
        subst h
        exact hi
theorem i_X11_countFits_J156 {a0 : Nat} {l1 : Int32} {μ : Mm} {x : ((Int32 × Mm) ⊕ (Mm))} {q : Nat} (h : f_X11_countFits_J156 a0 l1 μ = some x)  : mm_I ((sm (fun (q : Int32 × Mm) => q.2) (fun (q : Mm) => q)) x) q = mm_I μ q := by
  have hi : mm_I μ q = mm_I μ q := rfl
  have hp : mm_P μ = mm_P μ := rfl
  have r_a0 : rch (mm_P μ) a0 [] a0 := rfl
  obtain ⟨v156, e156, h⟩ := bd h
  have h := Option.some.inj h
  subst h
  exact hi
theorem i_X11_countFits_J137 {a0 : Nat} {l1 : Int32} {l2 : Int32} {μ : Mm} {x : ((Int32 × Mm) ⊕ (Mm))} {q : Nat} (h : f_X11_countFits_J137 a0 l1 l2 μ = some x) (c_a0 : ∀ p ∈ ([[], [35], [36]] : List (List Nat)), ¬ rch (mm_P μ) a0 p q) : mm_I ((sm (fun (q : Int32 × Mm) => q.2) (fun (q : Mm) => q)) x) q = mm_I μ q := by
  have hi : mm_I μ q = mm_I μ q := rfl
  have hp : mm_P μ = mm_P μ := rfl
  have r_a0 : rch (mm_P μ) a0 [] a0 := rfl
  obtain ⟨x139, e139, h⟩ := bd h
  have r_x139 := rch_f r_a0 e139 hp
  obtain ⟨x143, e143, h⟩ := bd h
  obtain ⟨x147, e147, h⟩ := bd h
  have hi := (i_X11_byNight e147 (rch_sub c_a0 r_a0 (by decide) hp)).trans hi
  have hp := (p_X11_byNight e147).trans hp
  obtain ⟨v150, e150, h⟩ := bd h
  have h := Option.some.inj h
  subst h
  exact hi
theorem i_X11_countFits_J131 {a0 : Nat} {l1 : Int32} {l2 : Int32} {l3 : Int32} {μ : Mm} {x : ((Int32 × Mm) ⊕ (Mm))} {q : Nat} (h : f_X11_countFits_J131 a0 l1 l2 l3 μ = some x)  : mm_I ((sm (fun (q : Int32 × Mm) => q.2) (fun (q : Mm) => q)) x) q = mm_I μ q := by
  have hi : mm_I μ q = mm_I μ q := rfl
  have hp : mm_P μ = mm_P μ := rfl
  have r_a0 : rch (mm_P μ) a0 [] a0 := rfl
  obtain ⟨v131, e131, h⟩ := bd h
  have h := Option.some.inj h
  subst h
  exact hi
theorem i_X11_countFits_L83 {a0 : Nat} {l1 : Int32} {l2 : Int32} {l3 : Int32} {s83 : Int32 × Mm} {x : ((Int32 × Mm) ⊕ (Mm))} {q : Nat} (h : f_X11_countFits_L83 a0 l1 l2 l3 s83 = some x) (c_a0 : ∀ p ∈ ([[58]] : List (List Nat)), ¬ rch (mm_P ((fun (q : Int32 × Mm) => q.2) s83)) a0 p q) : mm_I (sm (fun (q : Int32 × Mm) => q.2) (fun (q : Mm) => q) x) q = mm_I ((fun (q : Int32 × Mm) => q.2) s83) q := by
  have hi : mm_I ((fun (q : Int32 × Mm) => q.2) s83) q = mm_I ((fun (q : Int32 × Mm) => q.2) s83) q := rfl
  have hp : mm_P ((fun (q : Int32 × Mm) => q.2) s83) = mm_P ((fun (q : Int32 × Mm) => q.2) s83) := rfl
  have r_a0 : rch (mm_P ((fun (q : Int32 × Mm) => q.2) s83)) a0 [] a0 := rfl
  obtain ⟨x86, e86, h⟩ := bd h
  have r_x86 := rch_f r_a0 e86 hp
  obtain ⟨x90, e90, h⟩ := bd h
  rcases ite_e h with ⟨_, h⟩ | ⟨_, h⟩
  · have h := Option.some.inj h
    subst h
    exact hi
  · obtain ⟨x95, e95, h⟩ := bd h
    have r_x95 := rch_f r_a0 e95 hp
    obtain ⟨x111, e111, h⟩ := bd h
    obtain ⟨x113, e113, h⟩ := bd h
    have r_x113 := rch_f r_a0 e113 hp
    obtain ⟨x117, e117, h⟩ := bd h
    obtain ⟨μ124, e124, h⟩ := bd h
    have hi := (ki_paI e124 (rch_ne c_a0 (by decide) r_x95)).trans hi
    have hp := (kp_paI e124).trans hp
    obtain ⟨v125, e125, h⟩ := bd h
    have h := Option.some.inj h
    subst h
    exact hi
theorem i_X11_countFits_W83 {a0 : Nat} {l1 : Int32} {l2 : Int32} {l3 : Int32} {s83 : Int32 × Mm} {b : Mm} {q : Nat} (h : whl (f_X11_countFits_L83 a0 l1 l2 l3) s83 = some b) (c_a0 : ∀ p ∈ ([[58]] : List (List Nat)), ¬ rch (mm_P ((fun (q : Int32 × Mm) => q.2) s83)) a0 p q) : mm_I ((fun (q : Mm) => q) b) q = mm_I ((fun (q : Int32 × Mm) => q.2) s83) q := by
  have key := whl_inv (P := fun s' => mm_I ((fun (q : Int32 × Mm) => q.2) s') q = mm_I ((fun (q : Int32 × Mm) => q.2) s83) q ∧ mm_P ((fun (q : Int32 × Mm) => q.2) s') = mm_P ((fun (q : Int32 × Mm) => q.2) s83)) (Q := fun b' => mm_I ((fun (q : Mm) => q) b') q = mm_I ((fun (q : Int32 × Mm) => q.2) s83) q) (fun s' x hs1 hx => ?_) ⟨rfl, rfl⟩ h
  · exact key
  · obtain ⟨h1, hP⟩ := hs1
    have k1 := (i_X11_countFits_L83 hx (fun p hp hr => c_a0 p hp (by rw [← hP]; exact hr))).trans h1
    have k2 := (p_X11_countFits_L83 hx).trans hP
    cases x with
    | inl z => exact ⟨k1, k2⟩
    | inr z => exact k1
theorem i_X11_countFits_L70 {a0 : Nat} {l1 : Int32} {l2 : Int32} {s70 : Int32 × Mm} {x : ((Int32 × Mm) ⊕ (Mm))} {q : Nat} (h : f_X11_countFits_L70 a0 l1 l2 s70 = some x) (c_a0 : ∀ p ∈ ([[58]] : List (List Nat)), ¬ rch (mm_P ((fun (q : Int32 × Mm) => q.2) s70)) a0 p q) : mm_I (sm (fun (q : Int32 × Mm) => q.2) (fun (q : Mm) => q) x) q = mm_I ((fun (q : Int32 × Mm) => q.2) s70) q := by
  have hi : mm_I ((fun (q : Int32 × Mm) => q.2) s70) q = mm_I ((fun (q : Int32 × Mm) => q.2) s70) q := rfl
  have hp : mm_P ((fun (q : Int32 × Mm) => q.2) s70) = mm_P ((fun (q : Int32 × Mm) => q.2) s70) := rfl
  have r_a0 : rch (mm_P ((fun (q : Int32 × Mm) => q.2) s70)) a0 [] a0 := rfl
  obtain ⟨x72, e72, h⟩ := bd h
  have r_x72 := rch_f r_a0 e72 hp
  obtain ⟨x76, e76, h⟩ := bd h
  rcases ite_e h with ⟨_, h⟩ | ⟨_, h⟩
  · have h := Option.some.inj h
    subst h
    exact hi
  · obtain ⟨b83, w83, h⟩ := bd h
    have hi := (i_X11_countFits_W83 w83 (rch_sub c_a0 r_a0 (by decide) hp)).trans hi
    have hp := (p_X11_countFits_W83 w83).trans hp
    exact (i_X11_countFits_J131 h ).trans hi
theorem i_X11_countFits_W70 {a0 : Nat} {l1 : Int32} {l2 : Int32} {s70 : Int32 × Mm} {b : Mm} {q : Nat} (h : whl (f_X11_countFits_L70 a0 l1 l2) s70 = some b) (c_a0 : ∀ p ∈ ([[58]] : List (List Nat)), ¬ rch (mm_P ((fun (q : Int32 × Mm) => q.2) s70)) a0 p q) : mm_I ((fun (q : Mm) => q) b) q = mm_I ((fun (q : Int32 × Mm) => q.2) s70) q := by
  have key := whl_inv (P := fun s' => mm_I ((fun (q : Int32 × Mm) => q.2) s') q = mm_I ((fun (q : Int32 × Mm) => q.2) s70) q ∧ mm_P ((fun (q : Int32 × Mm) => q.2) s') = mm_P ((fun (q : Int32 × Mm) => q.2) s70)) (Q := fun b' => mm_I ((fun (q : Mm) => q) b') q = mm_I ((fun (q : Int32 × Mm) => q.2) s70) q) (fun s' x hs1 hx => ?_) ⟨rfl, rfl⟩ h
  · exact key
  · obtain ⟨h1, hP⟩ := hs1
    have k1 := (i_X11_countFits_L70 hx (fun p hp hr => c_a0 p hp (by rw [← hP]; exact hr))).trans h1
    have k2 := (p_X11_countFits_L70 hx).trans hP
    cases x with
    | inl z => exact ⟨k1, k2⟩
    | inr z => exact k1
theorem i_X11_countFits_L49 {a0 : Nat} {l1 : Int32} {s49 : Int32 × Mm} {x : ((Int32 × Mm) ⊕ (Mm))} {q : Nat} (h : f_X11_countFits_L49 a0 l1 s49 = some x) (c_a0 : ∀ p ∈ ([[], [35], [36], [58]] : List (List Nat)), ¬ rch (mm_P ((fun (q : Int32 × Mm) => q.2) s49)) a0 p q) : mm_I (sm (fun (q : Int32 × Mm) => q.2) (fun (q : Mm) => q) x) q = mm_I ((fun (q : Int32 × Mm) => q.2) s49) q := by
  have hi : mm_I ((fun (q : Int32 × Mm) => q.2) s49) q = mm_I ((fun (q : Int32 × Mm) => q.2) s49) q := rfl
  have hp : mm_P ((fun (q : Int32 × Mm) => q.2) s49) = mm_P ((fun (q : Int32 × Mm) => q.2) s49) := rfl
  have r_a0 : rch (mm_P ((fun (q : Int32 × Mm) => q.2) s49)) a0 [] a0 := rfl
  rcases ite_e h with ⟨_, h⟩ | ⟨_, h⟩
  · have h := Option.some.inj h
    subst h
    exact hi
  · obtain ⟨x57, e57, h⟩ := bd h
    have r_x57 := rch_f r_a0 e57 hp
    obtain ⟨x61, e61, h⟩ := bd h
    obtain ⟨x65, e65, h⟩ := bd h
    have hi := (i_X11_byDay e65 (rch_sub c_a0 r_a0 (by decide) hp)).trans hi
    have hp := (p_X11_byDay e65).trans hp
    obtain ⟨b70, w70, h⟩ := bd h
    have hi := (i_X11_countFits_W70 w70 (rch_sub c_a0 r_a0 (by decide) hp)).trans hi
    have hp := (p_X11_countFits_W70 w70).trans hp
    exact (i_X11_countFits_J137 h (rch_sub c_a0 r_a0 (by decide) hp)).trans hi
