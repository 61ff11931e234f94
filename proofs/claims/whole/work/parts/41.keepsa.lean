theorem kp_pfI {t k a : Nat} {v : Int32} {μ μ' : Mm} (h : pf_I t k a v μ = some μ') : mm_P μ' = mm_P μ := by obtain ⟨_, h⟩ := ite_p h; cases h; rfl
theorem kp_pfZ {t k a : Nat} {v : Int32} {μ μ' : Mm} (h : pf_Z t k a v μ = some μ') : mm_P μ' = mm_P μ := by obtain ⟨_, h⟩ := ite_p h; cases h; rfl
theorem kp_pfL {t k a : Nat} {v : Int64} {μ μ' : Mm} (h : pf_L t k a v μ = some μ') : mm_P μ' = mm_P μ := by obtain ⟨_, h⟩ := ite_p h; cases h; rfl
theorem kp_paI {a : Nat} {i v : Int32} {μ μ' : Mm} (h : pa_I a i v μ = some μ') : mm_P μ' = mm_P μ := by obtain ⟨_, h⟩ := ite_p h; cases h; rfl
theorem kp_paL {a : Nat} {i : Int32} {v : Int64} {μ μ' : Mm} (h : pa_L a i v μ = some μ') : mm_P μ' = mm_P μ := by obtain ⟨_, h⟩ := ite_p h; cases h; rfl
theorem kp_paB {a : Nat} {i v : Int32} {μ μ' : Mm} (h : pa_B a i v μ = some μ') : mm_P μ' = mm_P μ := by obtain ⟨_, h⟩ := ite_p h; cases h; rfl
theorem kp_paZ {a : Nat} {i v : Int32} {μ μ' : Mm} (h : pa_Z a i v μ = some μ') : mm_P μ' = mm_P μ := by obtain ⟨_, h⟩ := ite_p h; cases h; rfl
theorem kp_cpI {s d : Nat} {i j n : Int32} {μ μ' : Mm} (h : cp_I s i d j n μ = some μ') : mm_P μ' = mm_P μ := by obtain ⟨_, h⟩ := ite_p h; cases h; rfl
theorem whl_P {σ β : Type} {body : σ → Option (σ ⊕ β)} {g : σ → Mm} {gb : β → Mm} (hb : ∀ s x, body s = some x → mm_P (sm g gb x) = mm_P (g s)) {s : σ} {b : β} (h : whl body s = some b) : mm_P (gb b) = mm_P (g s) := by
  refine whl_inv (P := fun s' => mm_P (g s') = mm_P (g s)) (Q := fun b' => mm_P (gb b') = mm_P (g s)) (fun s' x hs hx => ?_) rfl h
  have h1 := (hb s' x hx).trans hs
  cases x <;> exact h1
theorem p_J7_fill_53178_L5 {l0 : Nat} {l1 : Int32} {l3 : Int32} {s5 : Int32 × Mm} {x : ((Int32 × Mm) ⊕ (Mm))} (h : f_J7_fill_53178_L5 l0 l1 l3 s5 = some x) : mm_P (sm (fun (q : Int32 × Mm) => q.2) (fun (q : Mm) => q) x) = mm_P ((fun (q : Int32 × Mm) => q.2) s5) := by
  have hk : mm_P (s5.2) = mm_P (s5.2) := rfl
  rcases ite_e h with ⟨_, h⟩ | ⟨_, h⟩
  · have h := Option.some.inj h
    subst h
    exact hk
  · obtain ⟨μ13, e13, h⟩ := bd h
    have hk := (kp_paI e13).trans hk
    obtain ⟨v14, e14, h⟩ := bd h
    have h := Option.some.inj h
    subst h
    exact hk
theorem p_J7_fill_53178_W5 {l0 : Nat} {l1 : Int32} {l3 : Int32} {s5 : Int32 × Mm} {b : Mm} (h : whl (f_J7_fill_53178_L5 l0 l1 l3) s5 = some b) : mm_P ((fun (q : Mm) => q) b) = mm_P ((fun (q : Int32 × Mm) => q.2) s5) :=
  whl_P (g := (fun (q : Int32 × Mm) => q.2)) (gb := (fun (q : Mm) => q)) (fun s x hx => p_J7_fill_53178_L5 hx) h
theorem p_J7_fill_53178 {l0 : Nat} {l1 : Int32} {μ : Mm} {x : Mm} (h : f_J7_fill_53178 l0 l1 μ = some x) : mm_P ((fun (q : Mm) => q) x) = mm_P μ := by
  have hk : mm_P μ = mm_P μ := rfl
  obtain ⟨x3, e3, h⟩ := bd h
  obtain ⟨b5, w5, h⟩ := bd h
  have hk := (p_J7_fill_53178_W5 w5).trans hk
  have h := Option.some.inj h
  subst h
  exact hk
theorem p_J7_fill_d0a16_L6 {l0 : Nat} {l1 : Int64} {l4 : Int32} {s6 : Int32 × Mm} {x : ((Int32 × Mm) ⊕ (Mm))} (h : f_J7_fill_d0a16_L6 l0 l1 l4 s6 = some x) : mm_P (sm (fun (q : Int32 × Mm) => q.2) (fun (q : Mm) => q) x) = mm_P ((fun (q : Int32 × Mm) => q.2) s6) := by
  have hk : mm_P (s6.2) = mm_P (s6.2) := rfl
  rcases ite_e h with ⟨_, h⟩ | ⟨_, h⟩
  · have h := Option.some.inj h
    subst h
    exact hk
  · obtain ⟨μ15, e15, h⟩ := bd h
    have hk := (kp_paL e15).trans hk
    obtain ⟨v16, e16, h⟩ := bd h
    have h := Option.some.inj h
    subst h
    exact hk
theorem p_J7_fill_d0a16_W6 {l0 : Nat} {l1 : Int64} {l4 : Int32} {s6 : Int32 × Mm} {b : Mm} (h : whl (f_J7_fill_d0a16_L6 l0 l1 l4) s6 = some b) : mm_P ((fun (q : Mm) => q) b) = mm_P ((fun (q : Int32 × Mm) => q.2) s6) :=
  whl_P (g := (fun (q : Int32 × Mm) => q.2)) (gb := (fun (q : Mm) => q)) (fun s x hx => p_J7_fill_d0a16_L6 hx) h
theorem p_J7_fill_d0a16 {l0 : Nat} {l1 : Int64} {μ : Mm} {x : Mm} (h : f_J7_fill_d0a16 l0 l1 μ = some x) : mm_P ((fun (q : Mm) => q) x) = mm_P μ := by
  have hk : mm_P μ = mm_P μ := rfl
  obtain ⟨x3, e3, h⟩ := bd h
  obtain ⟨b6, w6, h⟩ := bd h
  have hk := (p_J7_fill_d0a16_W6 w6).trans hk
  have h := Option.some.inj h
  subst h
  exact hk
theorem p_X0_addAct {a0 : Nat} {l1 : Int32} {l2 : Int32} {l3 : Int32} {l4 : Int32} {l5 : Int32} {μ : Mm} {x : (Int32 × Mm)} (h : f_X0_addAct a0 l1 l2 l3 l4 l5 μ = some x) : mm_P ((fun (q : (Int32 × Mm)) => q.2) x) = mm_P μ := by
  have hk : mm_P μ = mm_P μ := rfl
  obtain ⟨_, h⟩ := ite_p h
  obtain ⟨x1, e1, h⟩ := bd h
  rcases ite_e h with ⟨_, h⟩ | ⟨_, h⟩
  · have h := Option.some.inj h
    subst h
    exact hk
  · obtain ⟨μ12, e12, h⟩ := bd h
    have hk := (kp_pfI e12).trans hk
    obtain ⟨x16, e16, h⟩ := bd h
    obtain ⟨x20, e20, h⟩ := bd h
    obtain ⟨μ24, e24, h⟩ := bd h
    have hk := (kp_paI e24).trans hk
    obtain ⟨x26, e26, h⟩ := bd h
    obtain ⟨x30, e30, h⟩ := bd h
    obtain ⟨μ34, e34, h⟩ := bd h
    have hk := (kp_paI e34).trans hk
    obtain ⟨x36, e36, h⟩ := bd h
    obtain ⟨x40, e40, h⟩ := bd h
    obtain ⟨μ44, e44, h⟩ := bd h
    have hk := (kp_paI e44).trans hk
    obtain ⟨x46, e46, h⟩ := bd h
    obtain ⟨x50, e50, h⟩ := bd h
    obtain ⟨μ55, e55, h⟩ := bd h
    have hk := (kp_paI e55).trans hk
    obtain ⟨x57, e57, h⟩ := bd h
    obtain ⟨x61, e61, h⟩ := bd h
    obtain ⟨μ66, e66, h⟩ := bd h
    have hk := (kp_paI e66).trans hk
    obtain ⟨x69, e69, h⟩ := bd h
    obtain ⟨μ74, e74, h⟩ := bd h
    have hk := (kp_pfI e74).trans hk
    obtain ⟨x78, e78, h⟩ := bd h
    have h := Option.some.inj h
    subst h
    exact hk
theorem p_X10_act {a0 : Nat} {l1 : Int32} {l2 : Int32} {l3 : Int32} {l4 : Int32} {l5 : Int32} {μ : Mm} {x : (Int32 × Mm)} (h : f_X10_act a0 l1 l2 l3 l4 l5 μ = some x) : mm_P ((fun (q : (Int32 × Mm)) => q.2) x) = mm_P μ := by
  have hk : mm_P μ = mm_P μ := rfl
  obtain ⟨_, h⟩ := ite_p h
  obtain ⟨x1, e1, h⟩ := bd h
  obtain ⟨x7, e7, h⟩ := bd h
  rcases ite_e h with ⟨_, h⟩ | ⟨_, h⟩
  · have h := Option.some.inj h
    subst h
    exact hk
  · obtain ⟨x14, e14, h⟩ := bd h
    rcases ite_e h with ⟨_, h⟩ | ⟨_, h⟩
    · have h := Option.some.inj h
      subst h
      exact hk
    · obtain ⟨x24, e24, h⟩ := bd h
      obtain ⟨x28, e28, h⟩ := bd h
      rcases ite_e h with ⟨_, h⟩ | ⟨_, h⟩
      · have h := Option.some.inj h
        subst h
        exact hk
      · obtain ⟨x35, e35, h⟩ := bd h
        obtain ⟨x40, e40, h⟩ := bd h
        rcases ite_e h with ⟨_, h⟩ | ⟨_, h⟩
        · have h := Option.some.inj h
          subst h
          exact hk
        · obtain ⟨x50, e50, h⟩ := bd h
          obtain ⟨x53, e53, h⟩ := bd h
          rcases ite_e h with ⟨_, h⟩ | ⟨_, h⟩
          · have h := Option.some.inj h
            subst h
            exact hk
          · obtain ⟨x63, e63, h⟩ := bd h
            obtain ⟨μ67, e67, h⟩ := bd h
            have hk := (kp_pfZ e67).trans hk
            obtain ⟨x71, e71, h⟩ := bd h
            obtain ⟨x81, e81, h⟩ := bd h
            have hk := (p_X0_addAct e81).trans hk
            have h := Option.some.inj h
            subst h
            exact hk
theorem p_X4_setFact_J167  {k0 : Nat} {k1 : Int32} {μ : Mm} {x : Mm} (h : f_X4_setFact_J167 k0 k1 μ = some x) : mm_P ((fun (q : Mm) => q) x) = mm_P μ := by
  have hk : mm_P μ = mm_P μ := rfl
  obtain ⟨μ167, e167, h⟩ := bd h
  have hk := (kp_pfZ e167).trans hk
  have h := Option.some.inj h
  subst h
  exact hk
theorem p_X4_setFact_J166  {k0 : Nat} {μ : Mm} {x : Mm} (h : f_X4_setFact_J166 k0 μ = some x) : mm_P ((fun (q : Mm) => q) x) = mm_P μ := by
  have hk : mm_P μ = mm_P μ := rfl
  exact (p_X4_setFact_J167 h).trans hk
theorem p_X4_setFact_J147 {a0 : Nat} {l2 : Int32} {l4 : Int32} {k0 : Nat} {k1 : Int32} {μ : Mm} {x : Mm} (h : f_X4_setFact_J147 a0 l2 l4 k0 k1 μ = some x) : mm_P ((fun (q : Mm) => q) x) = mm_P μ := by
  have hk : mm_P μ = mm_P μ := rfl
  obtain ⟨μ147, e147, h⟩ := bd h
  have hk := (kp_pfZ e147).trans hk
  rcases ite_e h with ⟨_, h⟩ | ⟨_, h⟩
  · exact (p_X4_setFact_J166 h).trans hk
  · rcases ite_e h with ⟨_, h⟩ | ⟨_, h⟩
    · exact (p_X4_setFact_J167 h).trans hk
    · exact (p_X4_setFact_J166 h).trans hk
theorem p_X4_setFact_J146 {a0 : Nat} {l2 : Int32} {l4 : Int32} {k0 : Nat} {μ : Mm} {x : Mm} (h : f_X4_setFact_J146 a0 l2 l4 k0 μ = some x) : mm_P ((fun (q : Mm) => q) x) = mm_P μ := by
  have hk : mm_P μ = mm_P μ := rfl
  exact (p_X4_setFact_J147 h).trans hk
theorem p_X4_setFact_J127 {a0 : Nat} {l2 : Int32} {l4 : Int32} {l5 : Int32} {k0 : Nat} {k1 : Int32} {μ : Mm} {x : Mm} (h : f_X4_setFact_J127 a0 l2 l4 l5 k0 k1 μ = some x) : mm_P ((fun (q : Mm) => q) x) = mm_P μ := by
  have hk : mm_P μ = mm_P μ := rfl
  obtain ⟨μ127, e127, h⟩ := bd h
  have hk := (kp_pfZ e127).trans hk
  rcases ite_e h with ⟨_, h⟩ | ⟨_, h⟩
  · exact (p_X4_setFact_J146 h).trans hk
  · rcases ite_e h with ⟨_, h⟩ | ⟨_, h⟩
    · exact (p_X4_setFact_J146 h).trans hk
    · exact (p_X4_setFact_J147 h).trans hk
theorem p_X4_setFact_J126 {a0 : Nat} {l2 : Int32} {l4 : Int32} {l5 : Int32} {k0 : Nat} {μ : Mm} {x : Mm} (h : f_X4_setFact_J126 a0 l2 l4 l5 k0 μ = some x) : mm_P ((fun (q : Mm) => q) x) = mm_P μ := by
  have hk : mm_P μ = mm_P μ := rfl
  exact (p_X4_setFact_J127 h).trans hk
theorem p_X4_setFact_J102 {a0 : Nat} {l2 : Int32} {l3 : Int32} {l4 : Int32} {l5 : Int32} {k0 : Nat} {k1 : Int32} {μ : Mm} {x : Mm} (h : f_X4_setFact_J102 a0 l2 l3 l4 l5 k0 k1 μ = some x) : mm_P ((fun (q : Mm) => q) x) = mm_P μ := by
  have hk : mm_P μ = mm_P μ := rfl
  obtain ⟨μ102, e102, h⟩ := bd h
  have hk := (kp_pfI e102).trans hk
  obtain ⟨μ107, e107, h⟩ := bd h
  have hk := (kp_pfI e107).trans hk
  rcases ite_e h with ⟨_, h⟩ | ⟨_, h⟩
  · exact (p_X4_setFact_J126 h).trans hk
  · rcases ite_e h with ⟨_, h⟩ | ⟨_, h⟩
    · exact (p_X4_setFact_J127 h).trans hk
    · exact (p_X4_setFact_J126 h).trans hk
theorem p_X4_setFact_J75 {a0 : Nat} {l1 : Int32} {l2 : Int32} {l3 : Int32} {l4 : Int32} {l5 : Int32} {l6 : Int32} {k0 : Nat} {k1 : Int32} {μ : Mm} {x : Mm} (h : f_X4_setFact_J75 a0 l1 l2 l3 l4 l5 l6 k0 k1 μ = some x) : mm_P ((fun (q : Mm) => q) x) = mm_P μ := by
  have hk : mm_P μ = mm_P μ := rfl
  obtain ⟨μ75, e75, h⟩ := bd h
  have hk := (kp_pfI e75).trans hk
  rcases ite_e h with ⟨_, h⟩ | ⟨_, h⟩
  · exact (p_X4_setFact_J102 h).trans hk
  · obtain ⟨x86, e86, h⟩ := bd h
    obtain ⟨x89, e89, h⟩ := bd h
    obtain ⟨x94, e94, h⟩ := bd h
    exact (p_X4_setFact_J102 h).trans hk
theorem p_X4_setFact_J40 {a0 : Nat} {l1 : Int32} {l2 : Int32} {l3 : Int32} {l4 : Int32} {k0 : Int32} {μ : Mm} {x : Mm} (h : f_X4_setFact_J40 a0 l1 l2 l3 l4 k0 μ = some x) : mm_P ((fun (q : Mm) => q) x) = mm_P μ := by
  have hk : mm_P μ = mm_P μ := rfl
  obtain ⟨x43, e43, h⟩ := bd h
  obtain ⟨x47, e47, h⟩ := bd h
  rcases ite_e h with ⟨_, h⟩ | ⟨_, h⟩
  · exact (p_X4_setFact_J75 h).trans hk
  · obtain ⟨x59, e59, h⟩ := bd h
    obtain ⟨x62, e62, h⟩ := bd h
    obtain ⟨x67, e67, h⟩ := bd h
    exact (p_X4_setFact_J75 h).trans hk
theorem p_X4_setFact_J19 {a0 : Nat} {l1 : Int32} {l2 : Int32} {l3 : Int32} {k0 : Int32} {μ : Mm} {x : Mm} (h : f_X4_setFact_J19 a0 l1 l2 l3 k0 μ = some x) : mm_P ((fun (q : Mm) => q) x) = mm_P μ := by
  have hk : mm_P μ = mm_P μ := rfl
  obtain ⟨x22, e22, h⟩ := bd h
  obtain ⟨x25, e25, h⟩ := bd h
  rcases ite_e h with ⟨_, h⟩ | ⟨_, h⟩
  · exact (p_X4_setFact_J40 h).trans hk
  · exact (p_X4_setFact_J40 h).trans hk
theorem p_X4_setFact {a0 : Nat} {l1 : Int32} {l2 : Int32} {l3 : Int32} {μ : Mm} {x : Mm} (h : f_X4_setFact a0 l1 l2 l3 μ = some x) : mm_P ((fun (q : Mm) => q) x) = mm_P μ := by
  have hk : mm_P μ = mm_P μ := rfl
  obtain ⟨_, h⟩ := ite_p h
  obtain ⟨x1, e1, h⟩ := bd h
  obtain ⟨x4, e4, h⟩ := bd h
  rcases ite_e h with ⟨_, h⟩ | ⟨_, h⟩
  · exact (p_X4_setFact_J19 h).trans hk
  · exact (p_X4_setFact_J19 h).trans hk
theorem p_X4_setTurning_J48 {a0 : Nat} {l1 : Int32} {l2 : Int32} {μ : Mm} {x : ((Int32 × Mm) ⊕ (Mm))} (h : f_X4_setTurning_J48 a0 l1 l2 μ = some x) : mm_P ((sm (fun (q : Int32 × Mm) => q.2) (fun (q : Mm) => q)) x) = mm_P μ := by
  have hk : mm_P μ = mm_P μ := rfl
  obtain ⟨v48, e48, h⟩ := bd h
  have h := Option.some.inj h
  subst h
  exact hk
theorem p_X4_setTurning_L10 {a0 : Nat} {l1 : Int32} {s10 : Int32 × Mm} {x : ((Int32 × Mm) ⊕ (Mm))} (h : f_X4_setTurning_L10 a0 l1 s10 = some x) : mm_P (sm (fun (q : Int32 × Mm) => q.2) (fun (q : Mm) => q) x) = mm_P ((fun (q : Int32 × Mm) => q.2) s10) := by
  have hk : mm_P (s10.2) = mm_P (s10.2) := rfl
  rcases ite_e h with ⟨_, h⟩ | ⟨_, h⟩
  · have h := Option.some.inj h
    subst h
    exact hk
  · obtain ⟨x18, e18, h⟩ := bd h
    obtain ⟨x23, e23, h⟩ := bd h
    obtain ⟨μ28, e28, h⟩ := bd h
    have hk := (kp_paI e28).trans hk
    rcases ite_e h with ⟨_, h⟩ | ⟨_, h⟩
    · exact (p_X4_setTurning_J48 h).trans hk
    · rcases ite_e h with ⟨_, h⟩ | ⟨_, h⟩
      · exact (p_X4_setTurning_J48 h).trans hk
      · obtain ⟨x40, e40, h⟩ := bd h
        obtain ⟨μ47, e47, h⟩ := bd h
        have hk := (kp_paI e47).trans hk
        exact (p_X4_setTurning_J48 h).trans hk
theorem p_X4_setTurning_W10 {a0 : Nat} {l1 : Int32} {s10 : Int32 × Mm} {b : Mm} (h : whl (f_X4_setTurning_L10 a0 l1) s10 = some b) : mm_P ((fun (q : Mm) => q) b) = mm_P ((fun (q : Int32 × Mm) => q.2) s10) :=
  whl_P (g := (fun (q : Int32 × Mm) => q.2)) (gb := (fun (q : Mm) => q)) (fun s x hx => p_X4_setTurning_L10 hx) h
theorem p_X4_setTurning {a0 : Nat} {l1 : Int32} {μ : Mm} {x : Mm} (h : f_X4_setTurning a0 l1 μ = some x) : mm_P ((fun (q : Mm) => q) x) = mm_P μ := by
  have hk : mm_P μ = mm_P μ := rfl
  obtain ⟨_, h⟩ := ite_p h
  obtain ⟨x1, e1, h⟩ := bd h
  obtain ⟨x5, e5, h⟩ := bd h
  have hk := (p_J7_fill_53178 e5).trans hk
  obtain ⟨b10, w10, h⟩ := bd h
  have hk := (p_X4_setTurning_W10 w10).trans hk
  have h := Option.some.inj h
  subst h
  exact hk
theorem p_X10_all {a0 : Nat} {l1 : Int32} {l2 : Int32} {μ : Mm} {x : (Int32 × Mm)} (h : f_X10_all a0 l1 l2 μ = some x) : mm_P ((fun (q : (Int32 × Mm)) => q.2) x) = mm_P μ := by
  have hk : mm_P μ = mm_P μ := rfl
  obtain ⟨_, h⟩ := ite_p h
  obtain ⟨x1, e1, h⟩ := bd h
  obtain ⟨x5, e5, h⟩ := bd h
  rcases ite_e h with ⟨_, h⟩ | ⟨_, h⟩
  · have h := Option.some.inj h
    subst h
    exact hk
  · obtain ⟨x12, e12, h⟩ := bd h
    rcases ite_e h with ⟨_, h⟩ | ⟨_, h⟩
    · have h := Option.some.inj h
      subst h
      exact hk
    · obtain ⟨x22, e22, h⟩ := bd h
      obtain ⟨x26, e26, h⟩ := bd h
      obtain ⟨x29, e29, h⟩ := bd h
      have hk := (p_X4_setTurning e29).trans hk
      obtain ⟨x33, e33, h⟩ := bd h
      obtain ⟨x39, e39, h⟩ := bd h
      have hk := (p_X4_setFact e39).trans hk
      obtain ⟨x43, e43, h⟩ := bd h
      obtain ⟨x46, e46, h⟩ := bd h
      have h := Option.some.inj h
      subst h
      exact hk
theorem p_X1_chooseDay_J160 {a0 : Nat} {l1 : Int32} {l2 : Int32} {l5 : Int32} {l6 : Int32} {l7 : Int32} {μ : Mm} {x : ((Int32 × Int32 × Int32 × Mm) ⊕ (Int32 × Mm))} (h : f_X1_chooseDay_J160 a0 l1 l2 l5 l6 l7 μ = some x) : mm_P ((sm (fun (q : Int32 × Int32 × Int32 × Mm) => q.2.2.2) (fun (q : Int32 × Mm) => q.2)) x) = mm_P μ := by
  have hk : mm_P μ = mm_P μ := rfl
  obtain ⟨v160, e160, h⟩ := bd h
  have h := Option.some.inj h
  subst h
  exact hk
theorem p_X1_chooseDay_L88 {a0 : Nat} {l1 : Int32} {l2 : Int32} {s88 : Int32 × Int32 × Int32 × Mm} {x : ((Int32 × Int32 × Int32 × Mm) ⊕ (Int32 × Mm))} (h : f_X1_chooseDay_L88 a0 l1 l2 s88 = some x) : mm_P (sm (fun (q : Int32 × Int32 × Int32 × Mm) => q.2.2.2) (fun (q : Int32 × Mm) => q.2) x) = mm_P ((fun (q : Int32 × Int32 × Int32 × Mm) => q.2.2.2) s88) := by
  have hk : mm_P (s88.2.2.2) = mm_P (s88.2.2.2) := rfl
  obtain ⟨x91, e91, h⟩ := bd h
  obtain ⟨x94, e94, h⟩ := bd h
  rcases ite_e h with ⟨_, h⟩ | ⟨_, h⟩
  · have h := Option.some.inj h
    subst h
    exact hk
  · obtain ⟨x101, e101, h⟩ := bd h
    obtain ⟨x106, e106, h⟩ := bd h
    obtain ⟨v108, e108, h⟩ := bd h
    obtain ⟨x113, e113, h⟩ := bd h
    obtain ⟨v122, e122, h⟩ := bd h
    rcases ite_e h with ⟨_, h⟩ | ⟨_, h⟩
    · rcases ite_e h with ⟨_, h⟩ | ⟨_, h⟩
      · exact (p_X1_chooseDay_J160 h).trans hk
      · obtain ⟨μ144, e144, h⟩ := bd h
        have hk := (kp_pfI e144).trans hk
        obtain ⟨μ149, e149, h⟩ := bd h
        have hk := (kp_pfI e149).trans hk
        obtain ⟨μ157, e157, h⟩ := bd h
        have hk := (kp_pfI e157).trans hk
        exact (p_X1_chooseDay_J160 h).trans hk
    · exact (p_X1_chooseDay_J160 h).trans hk
theorem p_X1_chooseDay_W88 {a0 : Nat} {l1 : Int32} {l2 : Int32} {s88 : Int32 × Int32 × Int32 × Mm} {b : Int32 × Mm} (h : whl (f_X1_chooseDay_L88 a0 l1 l2) s88 = some b) : mm_P ((fun (q : Int32 × Mm) => q.2) b) = mm_P ((fun (q : Int32 × Int32 × Int32 × Mm) => q.2.2.2) s88) :=
  whl_P (g := (fun (q : Int32 × Int32 × Int32 × Mm) => q.2.2.2)) (gb := (fun (q : Int32 × Mm) => q.2)) (fun s x hx => p_X1_chooseDay_L88 hx) h
theorem p_X1_chooseDay_J79 {a0 : Nat} {l1 : Int32} {l2 : Int32} {l3 : Int32} {μ : Mm} {x : (Int32 × Mm)} (h : f_X1_chooseDay_J79 a0 l1 l2 l3 μ = some x) : mm_P ((fun (q : (Int32 × Mm)) => q.2) x) = mm_P μ := by
  have hk : mm_P μ = mm_P μ := rfl
  obtain ⟨b88, w88, h⟩ := bd h
  have hk := (p_X1_chooseDay_W88 w88).trans hk
  have h := Option.some.inj h
  subst h
  exact hk
theorem p_X1_chooseDay_J73 {a0 : Nat} {l1 : Int32} {l2 : Int32} {l3 : Int32} {l4 : Nat} {l5 : Int32} {μ : Mm} {x : ((Int32 × Mm) ⊕ (Mm))} (h : f_X1_chooseDay_J73 a0 l1 l2 l3 l4 l5 μ = some x) : mm_P ((sm (fun (q : Int32 × Mm) => q.2) (fun (q : Mm) => q)) x) = mm_P μ := by
  have hk : mm_P μ = mm_P μ := rfl
  obtain ⟨v73, e73, h⟩ := bd h
  have h := Option.some.inj h
  subst h
  exact hk
theorem p_X1_chooseDay_L18 {a0 : Nat} {l1 : Int32} {l2 : Int32} {l3 : Int32} {l4 : Nat} {s18 : Int32 × Mm} {x : ((Int32 × Mm) ⊕ (Mm))} (h : f_X1_chooseDay_L18 a0 l1 l2 l3 l4 s18 = some x) : mm_P (sm (fun (q : Int32 × Mm) => q.2) (fun (q : Mm) => q) x) = mm_P ((fun (q : Int32 × Mm) => q.2) s18) := by
  have hk : mm_P (s18.2) = mm_P (s18.2) := rfl
  obtain ⟨x21, e21, h⟩ := bd h
  rcases ite_e h with ⟨_, h⟩ | ⟨_, h⟩
  · have h := Option.some.inj h
    subst h
    exact hk
  · obtain ⟨x30, e30, h⟩ := bd h
    obtain ⟨x33, e33, h⟩ := bd h
    rcases ite_e h with ⟨_, h⟩ | ⟨_, h⟩
    · have h := Option.some.inj h
      subst h
      exact hk
    · obtain ⟨x40, e40, h⟩ := bd h
      obtain ⟨x45, e45, h⟩ := bd h
      obtain ⟨x47, e47, h⟩ := bd h
      obtain ⟨x55, e55, h⟩ := bd h
      obtain ⟨x58, e58, h⟩ := bd h
      rcases ite_e h with ⟨_, h⟩ | ⟨_, h⟩
      · exact (p_X1_chooseDay_J73 h).trans hk
      · obtain ⟨x63, e63, h⟩ := bd h
        obtain ⟨x69, e69, h⟩ := bd h
        obtain ⟨μ72, e72, h⟩ := bd h
        have hk := (kp_paI e72).trans hk
        exact (p_X1_chooseDay_J73 h).trans hk
theorem p_X1_chooseDay_W18 {a0 : Nat} {l1 : Int32} {l2 : Int32} {l3 : Int32} {l4 : Nat} {s18 : Int32 × Mm} {b : Mm} (h : whl (f_X1_chooseDay_L18 a0 l1 l2 l3 l4) s18 = some b) : mm_P ((fun (q : Mm) => q) b) = mm_P ((fun (q : Int32 × Mm) => q.2) s18) :=
  whl_P (g := (fun (q : Int32 × Mm) => q.2)) (gb := (fun (q : Mm) => q)) (fun s x hx => p_X1_chooseDay_L18 hx) h
theorem p_X1_chooseDay {a0 : Nat} {l1 : Int32} {l2 : Int32} {l3 : Int32} {μ : Mm} {x : (Int32 × Mm)} (h : f_X1_chooseDay a0 l1 l2 l3 μ = some x) : mm_P ((fun (q : (Int32 × Mm)) => q.2) x) = mm_P μ := by
  have hk : mm_P μ = mm_P μ := rfl
  obtain ⟨_, h⟩ := ite_p h
  obtain ⟨x1, e1, h⟩ := bd h
  obtain ⟨x5, e5, h⟩ := bd h
  have hk := (p_J7_fill_53178 e5).trans hk
  obtain ⟨x10, e10, h⟩ := bd h
  obtain ⟨b18, w18, h⟩ := bd h
  have hk := (p_X1_chooseDay_W18 w18).trans hk
  exact (p_X1_chooseDay_J79 h).trans hk
theorem p_X1_findComingsBy_J59 {a0 : Nat} {l1 : Int32} {l2 : Int32} {l3 : Int32} {μ : Mm} {x : ((Int32 × Mm) ⊕ (Mm))} (h : f_X1_findComingsBy_J59 a0 l1 l2 l3 μ = some x) : mm_P ((sm (fun (q : Int32 × Mm) => q.2) (fun (q : Mm) => q)) x) = mm_P μ := by
  have hk : mm_P μ = mm_P μ := rfl
  obtain ⟨v59, e59, h⟩ := bd h
  have h := Option.some.inj h
  subst h
  exact hk
theorem p_X1_findComingsBy_L2 {a0 : Nat} {l1 : Int32} {l2 : Int32} {s2 : Int32 × Mm} {x : ((Int32 × Mm) ⊕ (Mm))} (h : f_X1_findComingsBy_L2 a0 l1 l2 s2 = some x) : mm_P (sm (fun (q : Int32 × Mm) => q.2) (fun (q : Mm) => q) x) = mm_P ((fun (q : Int32 × Mm) => q.2) s2) := by
  have hk : mm_P (s2.2) = mm_P (s2.2) := rfl
  rcases ite_e h with ⟨_, h⟩ | ⟨_, h⟩
  · have h := Option.some.inj h
    subst h
    exact hk
  · rcases ite_e h with ⟨_, h⟩ | ⟨_, h⟩
    · have h := Option.some.inj h
      subst h
      exact hk
    · rcases ite_e h with ⟨_, h⟩ | ⟨_, h⟩
      · exact (p_X1_findComingsBy_J59 h).trans hk
      · obtain ⟨x24, e24, h⟩ := bd h
        obtain ⟨x28, e28, h⟩ := bd h
        obtain ⟨x29, e29, h⟩ := bd h
        rcases ite_e h with ⟨_, h⟩ | ⟨_, h⟩
        · exact (p_X1_findComingsBy_J59 h).trans hk
        · obtain ⟨x34, e34, h⟩ := bd h
          obtain ⟨x41, e41, h⟩ := bd h
          have hk := (p_X4_setFact e41).trans hk
          obtain ⟨x45, e45, h⟩ := bd h
          obtain ⟨x49, e49, h⟩ := bd h
          obtain ⟨x52, e52, h⟩ := bd h
          obtain ⟨x55, e55, h⟩ := bd h
          obtain ⟨μ58, e58, h⟩ := bd h
          have hk := (kp_paL e58).trans hk
          exact (p_X1_findComingsBy_J59 h).trans hk
theorem p_X1_findComingsBy_W2 {a0 : Nat} {l1 : Int32} {l2 : Int32} {s2 : Int32 × Mm} {b : Mm} (h : whl (f_X1_findComingsBy_L2 a0 l1 l2) s2 = some b) : mm_P ((fun (q : Mm) => q) b) = mm_P ((fun (q : Int32 × Mm) => q.2) s2) :=
  whl_P (g := (fun (q : Int32 × Mm) => q.2)) (gb := (fun (q : Mm) => q)) (fun s x hx => p_X1_findComingsBy_L2 hx) h
theorem p_X1_findComingsBy {a0 : Nat} {l1 : Int32} {l2 : Int32} {μ : Mm} {x : Mm} (h : f_X1_findComingsBy a0 l1 l2 μ = some x) : mm_P ((fun (q : Mm) => q) x) = mm_P μ := by
  have hk : mm_P μ = mm_P μ := rfl
  obtain ⟨_, h⟩ := ite_p h
  obtain ⟨b2, w2, h⟩ := bd h
  have hk := (p_X1_findComingsBy_W2 w2).trans hk
  have h := Option.some.inj h
  subst h
  exact hk
theorem p_X9_fillFrom_J14 {self : Nat → Int32 → Int32 → Int32 → Nat → Int32 → Mm → Option (Int32 × Mm)} (hs : ∀ (y0 : Nat) (y1 : Int32) (y2 : Int32) (y3 : Int32) (y4 : Nat) (y5 : Int32) (μ : Mm) (x : (Int32 × Mm)), self y0 y1 y2 y3 y4 y5 μ = some x → mm_P ((fun (q : (Int32 × Mm)) => q.2) x) = mm_P μ) {l3 : Int32} {l4 : Nat} {l5 : Int32} {μ : Mm} {x : (Int32 × Mm)} (h : f_X9_fillFrom_J14 self l3 l4 l5 μ = some x) : mm_P ((fun (q : (Int32 × Mm)) => q.2) x) = mm_P μ := by
  have hk : mm_P μ = mm_P μ := rfl
  obtain ⟨x18, e18, h⟩ := bd h
  rcases ite_e h with ⟨_, h⟩ | ⟨_, h⟩
  · have h := Option.some.inj h
    subst h
    exact hk
  · obtain ⟨μ27, e27, h⟩ := bd h
    have hk := (kp_paI e27).trans hk
    have h := Option.some.inj h
    subst h
    exact hk
theorem p_X9_fillFrom_J119 {self : Nat → Int32 → Int32 → Int32 → Nat → Int32 → Mm → Option (Int32 × Mm)} (hs : ∀ (y0 : Nat) (y1 : Int32) (y2 : Int32) (y3 : Int32) (y4 : Nat) (y5 : Int32) (μ : Mm) (x : (Int32 × Mm)), self y0 y1 y2 y3 y4 y5 μ = some x → mm_P ((fun (q : (Int32 × Mm)) => q.2) x) = mm_P μ) {a0 : Nat} {l1 : Int32} {l2 : Int32} {l3 : Int32} {l4 : Nat} {l6 : Int32} {l7 : Int32} {l8 : Int32} {l9 : Int32} {μ : Mm} {x : ((Int32 × Int32 × Mm) ⊕ (Int32 × Mm))} (h : f_X9_fillFrom_J119 self a0 l1 l2 l3 l4 l6 l7 l8 l9 μ = some x) : mm_P ((sm (fun (q : Int32 × Int32 × Mm) => q.2.2) (fun (q : Int32 × Mm) => q.2)) x) = mm_P μ := by
  have hk : mm_P μ = mm_P μ := rfl
  obtain ⟨v119, e119, h⟩ := bd h
  have h := Option.some.inj h
  subst h
  exact hk
theorem p_X9_fillFrom_L61 {self : Nat → Int32 → Int32 → Int32 → Nat → Int32 → Mm → Option (Int32 × Mm)} (hs : ∀ (y0 : Nat) (y1 : Int32) (y2 : Int32) (y3 : Int32) (y4 : Nat) (y5 : Int32) (μ : Mm) (x : (Int32 × Mm)), self y0 y1 y2 y3 y4 y5 μ = some x → mm_P ((fun (q : (Int32 × Mm)) => q.2) x) = mm_P μ) {a0 : Nat} {l1 : Int32} {l2 : Int32} {l3 : Int32} {l4 : Nat} {l6 : Int32} {l7 : Int32} {s61 : Int32 × Int32 × Mm} {x : ((Int32 × Int32 × Mm) ⊕ (Int32 × Mm))} (h : f_X9_fillFrom_L61 self a0 l1 l2 l3 l4 l6 l7 s61 = some x) : mm_P (sm (fun (q : Int32 × Int32 × Mm) => q.2.2) (fun (q : Int32 × Mm) => q.2) x) = mm_P ((fun (q : Int32 × Int32 × Mm) => q.2.2) s61) := by
  have hk : mm_P (s61.2.2) = mm_P (s61.2.2) := rfl
  rcases ite_e h with ⟨_, h⟩ | ⟨_, h⟩
  · have h := Option.some.inj h
    subst h
    exact hk
  · obtain ⟨v74, e74, h⟩ := bd h
    rcases ite_e h with ⟨_, h⟩ | ⟨_, h⟩
    · exact (p_X9_fillFrom_J119 hs h).trans hk
    · obtain ⟨x87, e87, h⟩ := bd h
      obtain ⟨x92, e92, h⟩ := bd h
      rcases ite_e h with ⟨_, h⟩ | ⟨_, h⟩
      · exact (p_X9_fillFrom_J119 hs h).trans hk
      · obtain ⟨x107, e107, h⟩ := bd h
        obtain ⟨x114, e114, h⟩ := bd h
        have hk := (hs a0 (l1 + (1 : Int32)) v74 x107 l4 s61.1 s61.2.2 _ e114).trans hk
        exact (p_X9_fillFrom_J119 hs h).trans hk
theorem p_X9_fillFrom_W61 {self : Nat → Int32 → Int32 → Int32 → Nat → Int32 → Mm → Option (Int32 × Mm)} (hs : ∀ (y0 : Nat) (y1 : Int32) (y2 : Int32) (y3 : Int32) (y4 : Nat) (y5 : Int32) (μ : Mm) (x : (Int32 × Mm)), self y0 y1 y2 y3 y4 y5 μ = some x → mm_P ((fun (q : (Int32 × Mm)) => q.2) x) = mm_P μ) {a0 : Nat} {l1 : Int32} {l2 : Int32} {l3 : Int32} {l4 : Nat} {l6 : Int32} {l7 : Int32} {s61 : Int32 × Int32 × Mm} {b : Int32 × Mm} (h : whl (f_X9_fillFrom_L61 self a0 l1 l2 l3 l4 l6 l7) s61 = some b) : mm_P ((fun (q : Int32 × Mm) => q.2) b) = mm_P ((fun (q : Int32 × Int32 × Mm) => q.2.2) s61) :=
  whl_P (g := (fun (q : Int32 × Int32 × Mm) => q.2.2)) (gb := (fun (q : Int32 × Mm) => q.2)) (fun s x hx => p_X9_fillFrom_L61 hs hx) h
theorem p_X9_fillFrom_B {self : Nat → Int32 → Int32 → Int32 → Nat → Int32 → Mm → Option (Int32 × Mm)} (hs : ∀ (y0 : Nat) (y1 : Int32) (y2 : Int32) (y3 : Int32) (y4 : Nat) (y5 : Int32) (μ : Mm) (x : (Int32 × Mm)), self y0 y1 y2 y3 y4 y5 μ = some x → mm_P ((fun (q : (Int32 × Mm)) => q.2) x) = mm_P μ) {a0 : Nat} {l1 : Int32} {l2 : Int32} {l3 : Int32} {l4 : Nat} {l5 : Int32} {μ : Mm} {x : (Int32 × Mm)} (h : f_X9_fillFrom_B self a0 l1 l2 l3 l4 l5 μ = some x) : mm_P ((fun (q : (Int32 × Mm)) => q.2) x) = mm_P μ := by
  have hk : mm_P μ = mm_P μ := rfl
  obtain ⟨_, h⟩ := ite_p h
  obtain ⟨x2, e2, h⟩ := bd h
  rcases ite_e h with ⟨_, h⟩ | ⟨_, h⟩
  · exact (p_X9_fillFrom_J14 hs h).trans hk
  · rcases ite_e h with ⟨_, h⟩ | ⟨_, h⟩
    · obtain ⟨x34, e34, h⟩ := bd h
      obtain ⟨x38, e38, h⟩ := bd h
      obtain ⟨x42, e42, h⟩ := bd h
      obtain ⟨x47, e47, h⟩ := bd h
      obtain ⟨v52, e52, h⟩ := bd h
      obtain ⟨b61, w61, h⟩ := bd h
      have hk := (p_X9_fillFrom_W61 hs w61).trans hk
      have h := Option.some.inj h
      subst h
      exact hk
    · exact (p_X9_fillFrom_J14 hs h).trans hk
theorem p_X9_fillFrom {n : Nat} : ∀ {a0 : Nat} {l1 : Int32} {l2 : Int32} {l3 : Int32} {l4 : Nat} {l5 : Int32} {μ : Mm} {x : (Int32 × Mm)}, f_X9_fillFrom n a0 l1 l2 l3 l4 l5 μ = some x → mm_P ((fun (q : (Int32 × Mm)) => q.2) x) = mm_P μ := by
  induction n with
  | zero => intro a0 l1 l2 l3 l4 l5 μ x h; cases h
  | succ n ih => intro a0 l1 l2 l3 l4 l5 μ x h; exact p_X9_fillFrom_B (fun _ _ _ _ _ _ μ x h => ih h) h
theorem p_X9_fillRows {a0 : Nat} {l1 : Nat} {μ : Mm} {x : Mm} (h : f_X9_fillRows a0 l1 μ = some x) : mm_P ((fun (q : Mm) => q) x) = mm_P μ := by
  have hk : mm_P μ = mm_P μ := rfl
  obtain ⟨_, h⟩ := ite_p h
  obtain ⟨x6, e6, h⟩ := bd h
  have hk := (p_X9_fillFrom e6).trans hk
  have h := Option.some.inj h
  subst h
  exact hk
theorem p_X3_start {a0 : Nat} {l1 : Int32} {l2 : Int32} {μ : Mm} {x : Mm} (h : f_X3_start a0 l1 l2 μ = some x) : mm_P ((fun (q : Mm) => q) x) = mm_P μ := by
  have hk : mm_P μ = mm_P μ := rfl
  obtain ⟨_, h⟩ := ite_p h
  obtain ⟨μ2, e2, h⟩ := bd h
  have hk := (kp_pfZ e2).trans hk
  obtain ⟨μ7, e7, h⟩ := bd h
  have hk := (kp_pfI e7).trans hk
  obtain ⟨μ12, e12, h⟩ := bd h
  have hk := (kp_pfI e12).trans hk
  obtain ⟨μ17, e17, h⟩ := bd h
  have hk := (kp_pfI e17).trans hk
  obtain ⟨x21, e21, h⟩ := bd h
  obtain ⟨x25, e25, h⟩ := bd h
  have hk := (p_J7_fill_53178 e25).trans hk
  have h := Option.some.inj h
  subst h
  exact hk
theorem p_X10_begin {a0 : Nat} {l1 : Int32} {μ : Mm} {x : (Int32 × Mm)} (h : f_X10_begin a0 l1 μ = some x) : mm_P ((fun (q : (Int32 × Mm)) => q.2) x) = mm_P μ := by
  have hk : mm_P μ = mm_P μ := rfl
  obtain ⟨_, h⟩ := ite_p h
  rcases ite_e h with ⟨_, h⟩ | ⟨_, h⟩
  · obtain ⟨x8, e8, h⟩ := bd h
    obtain ⟨x13, e13, h⟩ := bd h
    obtain ⟨x16, e16, h⟩ := bd h
    have hk := (p_X3_start e16).trans hk
    have h := Option.some.inj h
    subst h
    exact hk
  · have h := Option.some.inj h
    subst h
    exact hk
theorem p_X4_isComing {a0 : Nat} {l1 : Int32} {l2 : Int32} {l3 : Int32} {l4 : Int32} {μ : Mm} {x : (Int32 × Mm)} (h : f_X4_isComing a0 l1 l2 l3 l4 μ = some x) : mm_P ((fun (q : (Int32 × Mm)) => q.2) x) = mm_P μ := by
  have hk : mm_P μ = mm_P μ := rfl
  obtain ⟨_, h⟩ := ite_p h
  obtain ⟨μ2, e2, h⟩ := bd h
  have hk := (kp_pfI e2).trans hk
  obtain ⟨μ8, e8, h⟩ := bd h
  have hk := (kp_pfI e8).trans hk
  rcases ite_e h with ⟨_, h⟩ | ⟨_, h⟩
  · have h := Option.some.inj h
    subst h
    exact hk
  · have h := Option.some.inj h
    subst h
    exact hk
theorem p_X4_findComing_J114 {a0 : Nat} {l1 : Int32} {l2 : Int32} {l3 : Int32} {μ : Mm} {x : ((Int32 × Int32 × Mm) ⊕ ((Mm) ⊕ ((Mm) ⊕ ((Mm) ⊕ ((Mm) ⊕ (Mm))))))} (h : f_X4_findComing_J114 a0 l1 l2 l3 μ = some x) : mm_P ((sm (fun (q : Int32 × Int32 × Mm) => q.2.2) (sm (fun (q : Mm) => q) (sm (fun (q : Mm) => q) (sm (fun (q : Mm) => q) (sm (fun (q : Mm) => q) (fun (q : Mm) => q)))))) x) = mm_P μ := by
  have hk : mm_P μ = mm_P μ := rfl
  obtain ⟨x117, e117, h⟩ := bd h
  obtain ⟨x126, e126, h⟩ := bd h
  obtain ⟨x130, e130, h⟩ := bd h
  obtain ⟨x131, e131, h⟩ := bd h
  have hk := (p_X4_isComing e131).trans hk
  rcases ite_e h with ⟨_, h⟩ | ⟨_, h⟩
  · obtain ⟨v139, e139, h⟩ := bd h
    have h := Option.some.inj h
    subst h
    exact hk
  · have h := Option.some.inj h
    subst h
    exact hk
theorem p_X4_findComing_L66 {a0 : Nat} {l1 : Int32} {l3 : Int32} {s66 : Int32 × Int32 × Mm} {x : ((Int32 × Int32 × Mm) ⊕ ((Mm) ⊕ (Int32 × Mm)))} (h : f_X4_findComing_L66 a0 l1 l3 s66 = some x) : mm_P (sm (fun (q : Int32 × Int32 × Mm) => q.2.2) (sm (fun (q : Mm) => q) (fun (q : Int32 × Mm) => q.2)) x) = mm_P ((fun (q : Int32 × Int32 × Mm) => q.2.2) s66) := by
  have hk : mm_P (s66.2.2) = mm_P (s66.2.2) := rfl
  obtain ⟨x69, e69, h⟩ := bd h
  obtain ⟨x72, e72, h⟩ := bd h
  rcases ite_e h with ⟨_, h⟩ | ⟨_, h⟩
  · have h := Option.some.inj h
    subst h
    exact hk
  · obtain ⟨x85, e85, h⟩ := bd h
    obtain ⟨x97, e97, h⟩ := bd h
    obtain ⟨x100, e100, h⟩ := bd h
    have hk := (p_X4_isComing e100).trans hk
    rcases ite_e h with ⟨_, h⟩ | ⟨_, h⟩
    · obtain ⟨v108, e108, h⟩ := bd h
      have h := Option.some.inj h
      subst h
      exact hk
    · have h := Option.some.inj h
      subst h
      exact hk
theorem p_X4_findComing_W66 {a0 : Nat} {l1 : Int32} {l3 : Int32} {s66 : Int32 × Int32 × Mm} {b : (Mm) ⊕ (Int32 × Mm)} (h : whl (f_X4_findComing_L66 a0 l1 l3) s66 = some b) : mm_P ((sm (fun (q : Mm) => q) (fun (q : Int32 × Mm) => q.2)) b) = mm_P ((fun (q : Int32 × Int32 × Mm) => q.2.2) s66) :=
  whl_P (g := (fun (q : Int32 × Int32 × Mm) => q.2.2)) (gb := (sm (fun (q : Mm) => q) (fun (q : Int32 × Mm) => q.2))) (fun s x hx => p_X4_findComing_L66 hx) h
theorem p_X4_findComing_L7 {a0 : Nat} {l1 : Int32} {s7 : Int32 × Int32 × Mm} {x : ((Int32 × Int32 × Mm) ⊕ ((Mm) ⊕ ((Mm) ⊕ ((Mm) ⊕ ((Mm) ⊕ (Mm))))))} (h : f_X4_findComing_L7 a0 l1 s7 = some x) : mm_P (sm (fun (q : Int32 × Int32 × Mm) => q.2.2) (sm (fun (q : Mm) => q) (sm (fun (q : Mm) => q) (sm (fun (q : Mm) => q) (sm (fun (q : Mm) => q) (fun (q : Mm) => q))))) x) = mm_P ((fun (q : Int32 × Int32 × Mm) => q.2.2) s7) := by
  have hk : mm_P (s7.2.2) = mm_P (s7.2.2) := rfl
  rcases ite_e h with ⟨_, h⟩ | ⟨_, h⟩
  · have h := Option.some.inj h
    subst h
    exact hk
  · obtain ⟨μ15, e15, h⟩ := bd h
    have hk := (kp_pfI e15).trans hk
    obtain ⟨x21, e21, h⟩ := bd h
    obtain ⟨x30, e30, h⟩ := bd h
    have hk := (p_X4_isComing e30).trans hk
    rcases ite_e h with ⟨_, h⟩ | ⟨_, h⟩
    · obtain ⟨x41, e41, h⟩ := bd h
      obtain ⟨x50, e50, h⟩ := bd h
      obtain ⟨x54, e54, h⟩ := bd h
      obtain ⟨x55, e55, h⟩ := bd h
      have hk := (p_X4_isComing e55).trans hk
      rcases ite_e h with ⟨_, h⟩ | ⟨_, h⟩
      · obtain ⟨b66, w66, h⟩ := bd h
        have hk := (p_X4_findComing_W66 w66).trans hk
        rcases b66 with b66 | b66
        · have h := Option.some.inj h
          subst h
          exact hk
        · exact (p_X4_findComing_J114 h).trans hk
      · have h := Option.some.inj h
        subst h
        exact hk
    · have h := Option.some.inj h
      subst h
      exact hk
theorem p_X4_findComing_W7 {a0 : Nat} {l1 : Int32} {s7 : Int32 × Int32 × Mm} {b : (Mm) ⊕ ((Mm) ⊕ ((Mm) ⊕ ((Mm) ⊕ (Mm))))} (h : whl (f_X4_findComing_L7 a0 l1) s7 = some b) : mm_P ((sm (fun (q : Mm) => q) (sm (fun (q : Mm) => q) (sm (fun (q : Mm) => q) (sm (fun (q : Mm) => q) (fun (q : Mm) => q))))) b) = mm_P ((fun (q : Int32 × Int32 × Mm) => q.2.2) s7) :=
  whl_P (g := (fun (q : Int32 × Int32 × Mm) => q.2.2)) (gb := (sm (fun (q : Mm) => q) (sm (fun (q : Mm) => q) (sm (fun (q : Mm) => q) (sm (fun (q : Mm) => q) (fun (q : Mm) => q)))))) (fun s x hx => p_X4_findComing_L7 hx) h
theorem p_X4_findComing {a0 : Nat} {l1 : Int32} {μ : Mm} {x : (Int32 × Mm)} (h : f_X4_findComing a0 l1 μ = some x) : mm_P ((fun (q : (Int32 × Mm)) => q.2) x) = mm_P μ := by
  have hk : mm_P μ = mm_P μ := rfl
  obtain ⟨_, h⟩ := ite_p h
  obtain ⟨x3, e3, h⟩ := bd h
  obtain ⟨b7, w7, h⟩ := bd h
  have hk := (p_X4_findComing_W7 w7).trans hk
  rcases b7 with b7 | b7
  · have h := Option.some.inj h
    subst h
    exact hk
  · rcases b7 with b7 | b7
    · have h := Option.some.inj h
      subst h
      exact hk
    · rcases b7 with b7 | b7
      · have h := Option.some.inj h
        subst h
        exact hk
      · rcases b7 with b7 | b7
        · have h := Option.some.inj h
          subst h
          exact hk
        · have h := Option.some.inj h
          subst h
          exact hk
theorem p_X10_comes {a0 : Nat} {l1 : Int32} {l2 : Int32} {l3 : Int32} {l4 : Int32} {μ : Mm} {x : (Int32 × Mm)} (h : f_X10_comes a0 l1 l2 l3 l4 μ = some x) : mm_P ((fun (q : (Int32 × Mm)) => q.2) x) = mm_P μ := by
  have hk : mm_P μ = mm_P μ := rfl
  obtain ⟨_, h⟩ := ite_p h
  obtain ⟨x1, e1, h⟩ := bd h
  obtain ⟨x5, e5, h⟩ := bd h
  rcases ite_e h with ⟨_, h⟩ | ⟨_, h⟩
  · have h := Option.some.inj h
    subst h
    exact hk
  · obtain ⟨x12, e12, h⟩ := bd h
    obtain ⟨x16, e16, h⟩ := bd h
    rcases ite_e h with ⟨_, h⟩ | ⟨_, h⟩
    · have h := Option.some.inj h
      subst h
      exact hk
    · obtain ⟨x23, e23, h⟩ := bd h
      rcases ite_e h with ⟨_, h⟩ | ⟨_, h⟩
      · have h := Option.some.inj h
        subst h
        exact hk
      · rcases ite_e h with ⟨_, h⟩ | ⟨_, h⟩
        · have h := Option.some.inj h
          subst h
          exact hk
        · rcases ite_e h with ⟨_, h⟩ | ⟨_, h⟩
          · obtain ⟨x47, e47, h⟩ := bd h
            obtain ⟨x51, e51, h⟩ := bd h
            obtain ⟨x54, e54, h⟩ := bd h
            have hk := (p_X4_setTurning e54).trans hk
            obtain ⟨x58, e58, h⟩ := bd h
            obtain ⟨x64, e64, h⟩ := bd h
            have hk := (p_X4_setFact e64).trans hk
            obtain ⟨x68, e68, h⟩ := bd h
            obtain ⟨x72, e72, h⟩ := bd h
            have hk := (p_X4_findComing e72).trans hk
            rcases ite_e h with ⟨_, h⟩ | ⟨_, h⟩
            · have h := Option.some.inj h
              subst h
              exact hk
            · rcases ite_e h with ⟨_, h⟩ | ⟨_, h⟩
              · obtain ⟨x86, e86, h⟩ := bd h
                obtain ⟨x89, e89, h⟩ := bd h
                have h := Option.some.inj h
                subst h
                exact hk
              · rcases ite_e h with ⟨_, h⟩ | ⟨_, h⟩
                · obtain ⟨x100, e100, h⟩ := bd h
                  obtain ⟨x103, e103, h⟩ := bd h
                  have h := Option.some.inj h
                  subst h
                  exact hk
                · obtain ⟨x110, e110, h⟩ := bd h
                  obtain ⟨x113, e113, h⟩ := bd h
                  have h := Option.some.inj h
                  subst h
                  exact hk
          · have h := Option.some.inj h
            subst h
            exact hk
theorem p_X10_end {a0 : Nat} {l1 : Int32} {μ : Mm} {x : (Int32 × Mm)} (h : f_X10_end a0 l1 μ = some x) : mm_P ((fun (q : (Int32 × Mm)) => q.2) x) = mm_P μ := by
  have hk : mm_P μ = mm_P μ := rfl
  obtain ⟨_, h⟩ := ite_p h
  rcases ite_e h with ⟨_, h⟩ | ⟨_, h⟩
  · have h := Option.some.inj h
    subst h
    exact hk
  · obtain ⟨x6, e6, h⟩ := bd h
    obtain ⟨x9, e9, h⟩ := bd h
    rcases ite_e h with ⟨_, h⟩ | ⟨_, h⟩
    · obtain ⟨x18, e18, h⟩ := bd h
      obtain ⟨μ22, e22, h⟩ := bd h
      have hk := (kp_pfI e22).trans hk
      have h := Option.some.inj h
      subst h
      exact hk
    · have h := Option.some.inj h
      subst h
      exact hk
theorem p_X5_append_J43 {a0 : Nat} {l1 : Int32} {l2 : Int32} {μ : Mm} {x : ((Int32 × Mm) ⊕ (Mm))} (h : f_X5_append_J43 a0 l1 l2 μ = some x) : mm_P ((sm (fun (q : Int32 × Mm) => q.2) (fun (q : Mm) => q)) x) = mm_P μ := by
  have hk : mm_P μ = mm_P μ := rfl
  obtain ⟨v43, e43, h⟩ := bd h
  have h := Option.some.inj h
  subst h
  exact hk
theorem p_X5_append_L3 {a0 : Nat} {l1 : Int32} {s3 : Int32 × Mm} {x : ((Int32 × Mm) ⊕ (Mm))} (h : f_X5_append_L3 a0 l1 s3 = some x) : mm_P (sm (fun (q : Int32 × Mm) => q.2) (fun (q : Mm) => q) x) = mm_P ((fun (q : Int32 × Mm) => q.2) s3) := by
  have hk : mm_P (s3.2) = mm_P (s3.2) := rfl
  rcases ite_e h with ⟨_, h⟩ | ⟨_, h⟩
  · have h := Option.some.inj h
    subst h
    exact hk
  · obtain ⟨x8, e8, h⟩ := bd h
    rcases ite_e h with ⟨_, h⟩ | ⟨_, h⟩
    · exact (p_X5_append_J43 h).trans hk
    · obtain ⟨x18, e18, h⟩ := bd h
      obtain ⟨x22, e22, h⟩ := bd h
      obtain ⟨μ32, e32, h⟩ := bd h
      have hk := (kp_paI e32).trans hk
      obtain ⟨x35, e35, h⟩ := bd h
      obtain ⟨μ40, e40, h⟩ := bd h
      have hk := (kp_pfI e40).trans hk
      exact (p_X5_append_J43 h).trans hk
theorem p_X5_append_W3 {a0 : Nat} {l1 : Int32} {s3 : Int32 × Mm} {b : Mm} (h : whl (f_X5_append_L3 a0 l1) s3 = some b) : mm_P ((fun (q : Mm) => q) b) = mm_P ((fun (q : Int32 × Mm) => q.2) s3) :=
  whl_P (g := (fun (q : Int32 × Mm) => q.2)) (gb := (fun (q : Mm) => q)) (fun s x hx => p_X5_append_L3 hx) h
theorem p_X5_append {a0 : Nat} {l1 : Int32} {μ : Mm} {x : Mm} (h : f_X5_append a0 l1 μ = some x) : mm_P ((fun (q : Mm) => q) x) = mm_P μ := by
  have hk : mm_P μ = mm_P μ := rfl
  obtain ⟨_, h⟩ := ite_p h
  obtain ⟨b3, w3, h⟩ := bd h
  have hk := (p_X5_append_W3 w3).trans hk
  have h := Option.some.inj h
  subst h
  exact hk
theorem p_X10_feed {a0 : Nat} {l1 : Int32} {l2 : Int32} {l3 : Int32} {l4 : Int32} {l5 : Int32} {μ : Mm} {x : (Int32 × Mm)} (h : f_X10_feed a0 l1 l2 l3 l4 l5 μ = some x) : mm_P ((fun (q : (Int32 × Mm)) => q.2) x) = mm_P μ := by
  have hk : mm_P μ = mm_P μ := rfl
  obtain ⟨_, h⟩ := ite_p h
  obtain ⟨x1, e1, h⟩ := bd h
  obtain ⟨x4, e4, h⟩ := bd h
  rcases ite_e h with ⟨_, h⟩ | ⟨_, h⟩
  · have h := Option.some.inj h
    subst h
    exact hk
  · obtain ⟨x14, e14, h⟩ := bd h
    obtain ⟨x18, e18, h⟩ := bd h
    have hk := (p_X5_append e18).trans hk
    obtain ⟨x22, e22, h⟩ := bd h
    obtain ⟨x26, e26, h⟩ := bd h
    have hk := (p_X5_append e26).trans hk
    obtain ⟨x30, e30, h⟩ := bd h
    obtain ⟨x34, e34, h⟩ := bd h
    have hk := (p_X5_append e34).trans hk
    obtain ⟨x38, e38, h⟩ := bd h
    obtain ⟨x43, e43, h⟩ := bd h
    have hk := (p_X5_append e43).trans hk
    obtain ⟨x47, e47, h⟩ := bd h
    obtain ⟨x52, e52, h⟩ := bd h
    have hk := (p_X5_append e52).trans hk
    obtain ⟨x56, e56, h⟩ := bd h
    obtain ⟨x59, e59, h⟩ := bd h
    have h := Option.some.inj h
    subst h
    exact hk
theorem p_X3_drawn {a0 : Nat} {l1 : Int32} {μ : Mm} {x : (Int32 × Mm)} (h : f_X3_drawn a0 l1 μ = some x) : mm_P ((fun (q : (Int32 × Mm)) => q.2) x) = mm_P μ := by
  have hk : mm_P μ = mm_P μ := rfl
  obtain ⟨_, h⟩ := ite_p h
  obtain ⟨x4, e4, h⟩ := bd h
  obtain ⟨μ15, e15, h⟩ := bd h
  have hk := (kp_pfI e15).trans hk
  rcases ite_e h with ⟨_, h⟩ | ⟨_, h⟩
  · have h := Option.some.inj h
    subst h
    exact hk
  · obtain ⟨x23, e23, h⟩ := bd h
    obtain ⟨_, h⟩ := ite_n h
    have h := Option.some.inj h
    subst h
    exact hk
theorem p_X3_pass_J152 {a0 : Nat} {l1 : Int32} {l2 : Nat} {l3 : Nat} {l4 : Int32} {l5 : Int32} {μ : Mm} {x : ((Int32 × Mm) ⊕ (Mm))} (h : f_X3_pass_J152 a0 l1 l2 l3 l4 l5 μ = some x) : mm_P ((sm (fun (q : Int32 × Mm) => q.2) (fun (q : Mm) => q)) x) = mm_P μ := by
  have hk : mm_P μ = mm_P μ := rfl
  obtain ⟨v152, e152, h⟩ := bd h
  have h := Option.some.inj h
  subst h
  exact hk
theorem p_X3_pass_J103 {a0 : Nat} {l1 : Int32} {l2 : Nat} {l3 : Nat} {l4 : Int32} {l5 : Int32} {l6 : Int32} {μ : Mm} {x : ((Int32 × Mm) ⊕ (Mm))} (h : f_X3_pass_J103 a0 l1 l2 l3 l4 l5 l6 μ = some x) : mm_P ((sm (fun (q : Int32 × Mm) => q.2) (fun (q : Mm) => q)) x) = mm_P μ := by
  have hk : mm_P μ = mm_P μ := rfl
  obtain ⟨x105, e105, h⟩ := bd h
  obtain ⟨μ110, e110, h⟩ := bd h
  have hk := (kp_pfI e110).trans hk
  rcases ite_e h with ⟨_, h⟩ | ⟨_, h⟩
  · obtain ⟨x124, e124, h⟩ := bd h
    obtain ⟨x129, e129, h⟩ := bd h
    obtain ⟨x132, e132, h⟩ := bd h
    obtain ⟨x135, e135, h⟩ := bd h
    have hk := (p_X3_drawn e135).trans hk
    obtain ⟨x138, e138, h⟩ := bd h
    obtain ⟨μ141, e141, h⟩ := bd h
    have hk := (kp_pfI e141).trans hk
    obtain ⟨x146, e146, h⟩ := bd h
    obtain ⟨x149, e149, h⟩ := bd h
    have hk := (p_X4_setTurning e149).trans hk
    exact (p_X3_pass_J152 h).trans hk
  · exact (p_X3_pass_J152 h).trans hk
theorem p_X3_pass_L39 {a0 : Nat} {l1 : Int32} {l2 : Nat} {l3 : Nat} {l4 : Int32} {l5 : Int32} {l6 : Int32} {s39 : Int32 × Mm} {x : ((Int32 × Mm) ⊕ (Mm))} (h : f_X3_pass_L39 a0 l1 l2 l3 l4 l5 l6 s39 = some x) : mm_P (sm (fun (q : Int32 × Mm) => q.2) (fun (q : Mm) => q) x) = mm_P ((fun (q : Int32 × Mm) => q.2) s39) := by
  have hk : mm_P (s39.2) = mm_P (s39.2) := rfl
  obtain ⟨x42, e42, h⟩ := bd h
  obtain ⟨x45, e45, h⟩ := bd h
  rcases ite_e h with ⟨_, h⟩ | ⟨_, h⟩
  · have h := Option.some.inj h
    subst h
    exact hk
  · rcases ite_e h with ⟨_, h⟩ | ⟨_, h⟩
    · have h := Option.some.inj h
      subst h
      exact hk
    · obtain ⟨x64, e64, h⟩ := bd h
      have hk := (p_X4_setFact e64).trans hk
      obtain ⟨x69, e69, h⟩ := bd h
      obtain ⟨x74, e74, h⟩ := bd h
      obtain ⟨x77, e77, h⟩ := bd h
      obtain ⟨x83, e83, h⟩ := bd h
      obtain ⟨x93, e93, h⟩ := bd h
      obtain ⟨μ96, e96, h⟩ := bd h
      have hk := (kp_paI e96).trans hk
      obtain ⟨v97, e97, h⟩ := bd h
      have h := Option.some.inj h
      subst h
      exact hk
theorem p_X3_pass_W39 {a0 : Nat} {l1 : Int32} {l2 : Nat} {l3 : Nat} {l4 : Int32} {l5 : Int32} {l6 : Int32} {s39 : Int32 × Mm} {b : Mm} (h : whl (f_X3_pass_L39 a0 l1 l2 l3 l4 l5 l6) s39 = some b) : mm_P ((fun (q : Mm) => q) b) = mm_P ((fun (q : Int32 × Mm) => q.2) s39) :=
  whl_P (g := (fun (q : Int32 × Mm) => q.2)) (gb := (fun (q : Mm) => q)) (fun s x hx => p_X3_pass_L39 hx) h
theorem p_X3_pass_L21 {a0 : Nat} {l1 : Int32} {l2 : Nat} {l3 : Nat} {l4 : Int32} {s21 : Int32 × Mm} {x : ((Int32 × Mm) ⊕ (Mm))} (h : f_X3_pass_L21 a0 l1 l2 l3 l4 s21 = some x) : mm_P (sm (fun (q : Int32 × Mm) => q.2) (fun (q : Mm) => q) x) = mm_P ((fun (q : Int32 × Mm) => q.2) s21) := by
  have hk : mm_P (s21.2) = mm_P (s21.2) := rfl
  rcases ite_e h with ⟨_, h⟩ | ⟨_, h⟩
  · have h := Option.some.inj h
    subst h
    exact hk
  · obtain ⟨x28, e28, h⟩ := bd h
    obtain ⟨_, h⟩ := ite_n h
    obtain ⟨v34, e34, h⟩ := bd h
    obtain ⟨b39, w39, h⟩ := bd h
    have hk := (p_X3_pass_W39 w39).trans hk
    exact (p_X3_pass_J103 h).trans hk
theorem p_X3_pass_W21 {a0 : Nat} {l1 : Int32} {l2 : Nat} {l3 : Nat} {l4 : Int32} {s21 : Int32 × Mm} {b : Mm} (h : whl (f_X3_pass_L21 a0 l1 l2 l3 l4) s21 = some b) : mm_P ((fun (q : Mm) => q) b) = mm_P ((fun (q : Int32 × Mm) => q.2) s21) :=
  whl_P (g := (fun (q : Int32 × Mm) => q.2)) (gb := (fun (q : Mm) => q)) (fun s x hx => p_X3_pass_L21 hx) h
theorem p_X3_pass {a0 : Nat} {l1 : Int32} {l2 : Nat} {l3 : Nat} {μ : Mm} {x : Mm} (h : f_X3_pass a0 l1 l2 l3 μ = some x) : mm_P ((fun (q : Mm) => q) x) = mm_P μ := by
  have hk : mm_P μ = mm_P μ := rfl
  obtain ⟨_, h⟩ := ite_p h
  obtain ⟨x2, e2, h⟩ := bd h
  obtain ⟨v8, e8, h⟩ := bd h
  obtain ⟨x12, e12, h⟩ := bd h
  obtain ⟨x15, e15, h⟩ := bd h
  have hk := (p_X4_setTurning e15).trans hk
  obtain ⟨b21, w21, h⟩ := bd h
  have hk := (p_X3_pass_W21 w21).trans hk
  have h := Option.some.inj h
  subst h
  exact hk
theorem p_X10_go {a0 : Nat} {l1 : Int32} {μ : Mm} {x : (Int32 × Mm)} (h : f_X10_go a0 l1 μ = some x) : mm_P ((fun (q : (Int32 × Mm)) => q.2) x) = mm_P μ := by
  have hk : mm_P μ = mm_P μ := rfl
  obtain ⟨_, h⟩ := ite_p h
  rcases ite_e h with ⟨_, h⟩ | ⟨_, h⟩
  · have h := Option.some.inj h
    subst h
    exact hk
  · rcases ite_e h with ⟨_, h⟩ | ⟨_, h⟩
    · obtain ⟨x15, e15, h⟩ := bd h
      obtain ⟨x18, e18, h⟩ := bd h
      rcases ite_e h with ⟨_, h⟩ | ⟨_, h⟩
      · have h := Option.some.inj h
        subst h
        exact hk
      · obtain ⟨x28, e28, h⟩ := bd h
        obtain ⟨x33, e33, h⟩ := bd h
        obtain ⟨x37, e37, h⟩ := bd h
        obtain ⟨x40, e40, h⟩ := bd h
        have hk := (p_X3_pass e40).trans hk
        obtain ⟨x44, e44, h⟩ := bd h
        obtain ⟨x47, e47, h⟩ := bd h
        have h := Option.some.inj h
        subst h
        exact hk
    · have h := Option.some.inj h
      subst h
      exact hk
theorem p_X0_clear {a0 : Nat} {μ : Mm} {x : Mm} (h : f_X0_clear a0 μ = some x) : mm_P ((fun (q : Mm) => q) x) = mm_P μ := by
  have hk : mm_P μ = mm_P μ := rfl
  obtain ⟨_, h⟩ := ite_p h
  obtain ⟨μ2, e2, h⟩ := bd h
  have hk := (kp_pfI e2).trans hk
  obtain ⟨μ7, e7, h⟩ := bd h
  have hk := (kp_pfI e7).trans hk
  obtain ⟨μ12, e12, h⟩ := bd h
  have hk := (kp_pfI e12).trans hk
  have h := Option.some.inj h
  subst h
  exact hk
theorem p_X7_clear {a0 : Nat} {μ : Mm} {x : Mm} (h : f_X7_clear a0 μ = some x) : mm_P ((fun (q : Mm) => q) x) = mm_P μ := by
  have hk : mm_P μ = mm_P μ := rfl
  obtain ⟨_, h⟩ := ite_p h
  obtain ⟨μ2, e2, h⟩ := bd h
  have hk := (kp_pfI e2).trans hk
  obtain ⟨μ7, e7, h⟩ := bd h
  have hk := (kp_pfI e7).trans hk
  obtain ⟨μ12, e12, h⟩ := bd h
  have hk := (kp_pfI e12).trans hk
  obtain ⟨μ17, e17, h⟩ := bd h
  have hk := (kp_pfI e17).trans hk
  obtain ⟨μ22, e22, h⟩ := bd h
  have hk := (kp_pfI e22).trans hk
  obtain ⟨μ27, e27, h⟩ := bd h
  have hk := (kp_pfI e27).trans hk
  obtain ⟨μ33, e33, h⟩ := bd h
  have hk := (kp_pfI e33).trans hk
  obtain ⟨μ38, e38, h⟩ := bd h
  have hk := (kp_pfI e38).trans hk
  obtain ⟨x42, e42, h⟩ := bd h
  obtain ⟨μ46, e46, h⟩ := bd h
  have hk := (kp_pfI e46).trans hk
  obtain ⟨x50, e50, h⟩ := bd h
  obtain ⟨μ54, e54, h⟩ := bd h
  have hk := (kp_pfI e54).trans hk
  obtain ⟨x58, e58, h⟩ := bd h
  obtain ⟨μ62, e62, h⟩ := bd h
  have hk := (kp_pfI e62).trans hk
  obtain ⟨x66, e66, h⟩ := bd h
  obtain ⟨μ70, e70, h⟩ := bd h
  have hk := (kp_pfI e70).trans hk
  obtain ⟨x74, e74, h⟩ := bd h
  obtain ⟨μ78, e78, h⟩ := bd h
  have hk := (kp_pfI e78).trans hk
  obtain ⟨x82, e82, h⟩ := bd h
  obtain ⟨x86, e86, h⟩ := bd h
  have hk := (p_J7_fill_53178 e86).trans hk
  obtain ⟨x90, e90, h⟩ := bd h
  obtain ⟨x94, e94, h⟩ := bd h
  have hk := (p_J7_fill_53178 e94).trans hk
  have h := Option.some.inj h
  subst h
  exact hk
theorem p_X9_prepare_J139 {a0 : Nat} {l2 : Int32} {l3 : Int32} {k0 : Nat} {k1 : Int32} {k2 : Int32} {μ : Mm} {x : ((Int32 × Mm) ⊕ (Mm))} (h : f_X9_prepare_J139 a0 l2 l3 k0 k1 k2 μ = some x) : mm_P ((sm (fun (q : Int32 × Mm) => q.2) (fun (q : Mm) => q)) x) = mm_P μ := by
  have hk : mm_P μ = mm_P μ := rfl
  obtain ⟨μ139, e139, h⟩ := bd h
  have hk := (kp_paI e139).trans hk
  obtain ⟨v140, e140, h⟩ := bd h
  have h := Option.some.inj h
  subst h
  exact hk
theorem p_X9_prepare_L113 {a0 : Nat} {l2 : Int32} {s113 : Int32 × Mm} {x : ((Int32 × Mm) ⊕ (Mm))} (h : f_X9_prepare_L113 a0 l2 s113 = some x) : mm_P (sm (fun (q : Int32 × Mm) => q.2) (fun (q : Mm) => q) x) = mm_P ((fun (q : Int32 × Mm) => q.2) s113) := by
  have hk : mm_P (s113.2) = mm_P (s113.2) := rfl
  rcases ite_e h with ⟨_, h⟩ | ⟨_, h⟩
  · have h := Option.some.inj h
    subst h
    exact hk
  · obtain ⟨x118, e118, h⟩ := bd h
    rcases ite_e h with ⟨_, h⟩ | ⟨_, h⟩
    · obtain ⟨x136, e136, h⟩ := bd h
      exact (p_X9_prepare_J139 h).trans hk
    · exact (p_X9_prepare_J139 h).trans hk
theorem p_X9_prepare_W113 {a0 : Nat} {l2 : Int32} {s113 : Int32 × Mm} {b : Mm} (h : whl (f_X9_prepare_L113 a0 l2) s113 = some b) : mm_P ((fun (q : Mm) => q) b) = mm_P ((fun (q : Int32 × Mm) => q.2) s113) :=
  whl_P (g := (fun (q : Int32 × Mm) => q.2)) (gb := (fun (q : Mm) => q)) (fun s x hx => p_X9_prepare_L113 hx) h
theorem p_X9_prepare_J105 {a0 : Nat} {l2 : Int32} {μ : Mm} {x : Mm} (h : f_X9_prepare_J105 a0 l2 μ = some x) : mm_P ((fun (q : Mm) => q) x) = mm_P μ := by
  have hk : mm_P μ = mm_P μ := rfl
  obtain ⟨x106, e106, h⟩ := bd h
  obtain ⟨x109, e109, h⟩ := bd h
  obtain ⟨v112, e112, h⟩ := bd h
  obtain ⟨b113, w113, h⟩ := bd h
  have hk := (p_X9_prepare_W113 w113).trans hk
  have h := Option.some.inj h
  subst h
  exact hk
theorem p_X9_prepare_J99 {a0 : Nat} {l1 : Nat} {l2 : Int32} {l3 : Int32} {μ : Mm} {x : ((Int32 × Mm) ⊕ (Mm))} (h : f_X9_prepare_J99 a0 l1 l2 l3 μ = some x) : mm_P ((sm (fun (q : Int32 × Mm) => q.2) (fun (q : Mm) => q)) x) = mm_P μ := by
  have hk : mm_P μ = mm_P μ := rfl
  obtain ⟨v99, e99, h⟩ := bd h
  have h := Option.some.inj h
  subst h
  exact hk
theorem p_X9_prepare_J98 {a0 : Nat} {l1 : Nat} {l2 : Int32} {l3 : Int32} {k0 : Nat} {k1 : Int32} {k2 : Int32} {μ : Mm} {x : ((Int32 × Mm) ⊕ (Mm))} (h : f_X9_prepare_J98 a0 l1 l2 l3 k0 k1 k2 μ = some x) : mm_P ((sm (fun (q : Int32 × Mm) => q.2) (fun (q : Mm) => q)) x) = mm_P μ := by
  have hk : mm_P μ = mm_P μ := rfl
  obtain ⟨μ98, e98, h⟩ := bd h
  have hk := (kp_paI e98).trans hk
  exact (p_X9_prepare_J99 h).trans hk
theorem p_X9_prepare_L23 {a0 : Nat} {l1 : Nat} {l2 : Int32} {s23 : Int32 × Mm} {x : ((Int32 × Mm) ⊕ (Mm))} (h : f_X9_prepare_L23 a0 l1 l2 s23 = some x) : mm_P (sm (fun (q : Int32 × Mm) => q.2) (fun (q : Mm) => q) x) = mm_P ((fun (q : Int32 × Mm) => q.2) s23) := by
  have hk : mm_P (s23.2) = mm_P (s23.2) := rfl
  obtain ⟨x25, e25, h⟩ := bd h
  rcases ite_e h with ⟨_, h⟩ | ⟨_, h⟩
  · have h := Option.some.inj h
    subst h
    exact hk
  · obtain ⟨x33, e33, h⟩ := bd h
    rcases ite_e h with ⟨_, h⟩ | ⟨_, h⟩
    · obtain ⟨x40, e40, h⟩ := bd h
      obtain ⟨x44, e44, h⟩ := bd h
      obtain ⟨μ48, e48, h⟩ := bd h
      have hk := (kp_paI e48).trans hk
      obtain ⟨x51, e51, h⟩ := bd h
      obtain ⟨μ56, e56, h⟩ := bd h
      have hk := (kp_pfI e56).trans hk
      obtain ⟨x61, e61, h⟩ := bd h
      obtain ⟨x67, e67, h⟩ := bd h
      rcases ite_e h with ⟨_, h⟩ | ⟨_, h⟩
      · obtain ⟨x86, e86, h⟩ := bd h
        exact (p_X9_prepare_J98 h).trans hk
      · exact (p_X9_prepare_J98 h).trans hk
    · exact (p_X9_prepare_J99 h).trans hk
theorem p_X9_prepare_W23 {a0 : Nat} {l1 : Nat} {l2 : Int32} {s23 : Int32 × Mm} {b : Mm} (h : whl (f_X9_prepare_L23 a0 l1 l2) s23 = some b) : mm_P ((fun (q : Mm) => q) b) = mm_P ((fun (q : Int32 × Mm) => q.2) s23) :=
  whl_P (g := (fun (q : Int32 × Mm) => q.2)) (gb := (fun (q : Mm) => q)) (fun s x hx => p_X9_prepare_L23 hx) h
theorem p_X9_prepare {a0 : Nat} {l1 : Nat} {μ : Mm} {x : Mm} (h : f_X9_prepare a0 l1 μ = some x) : mm_P ((fun (q : Mm) => q) x) = mm_P μ := by
  have hk : mm_P μ = mm_P μ := rfl
  obtain ⟨_, h⟩ := ite_p h
  obtain ⟨μ2, e2, h⟩ := bd h
  have hk := (kp_pfI e2).trans hk
  obtain ⟨x7, e7, h⟩ := bd h
  obtain ⟨x14, e14, h⟩ := bd h
  obtain ⟨v20, e20, h⟩ := bd h
  obtain ⟨b23, w23, h⟩ := bd h
  have hk := (p_X9_prepare_W23 w23).trans hk
  exact (p_X9_prepare_J105 h).trans hk
theorem p_X10_isActRight {a0 : Nat} {l1 : Int32} {l2 : Int32} {l3 : Int32} {μ : Mm} {x : (Int32 × Mm)} (h : f_X10_isActRight a0 l1 l2 l3 μ = some x) : mm_P ((fun (q : (Int32 × Mm)) => q.2) x) = mm_P μ := by
  have hk : mm_P μ = mm_P μ := rfl
  obtain ⟨_, h⟩ := ite_p h
  obtain ⟨x1, e1, h⟩ := bd h
  obtain ⟨x5, e5, h⟩ := bd h
  rcases ite_e h with ⟨_, h⟩ | ⟨_, h⟩
  · have h := Option.some.inj h
    subst h
    exact hk
  · obtain ⟨x12, e12, h⟩ := bd h
    obtain ⟨x16, e16, h⟩ := bd h
    rcases ite_e h with ⟨_, h⟩ | ⟨_, h⟩
    · have h := Option.some.inj h
      subst h
      exact hk
    · obtain ⟨x25, e25, h⟩ := bd h
      obtain ⟨x32, e32, h⟩ := bd h
      have hk := (p_X4_setFact e32).trans hk
      obtain ⟨x36, e36, h⟩ := bd h
      obtain ⟨x40, e40, h⟩ := bd h
      rcases ite_e h with ⟨_, h⟩ | ⟨_, h⟩
      · have h := Option.some.inj h
        subst h
        exact hk
      · have h := Option.some.inj h
        subst h
        exact hk
theorem p_X6_readDigits_J102  {k0 : Nat} {k1 : Int32} {μ : Mm} {x : Mm} (h : f_X6_readDigits_J102 k0 k1 μ = some x) : mm_P ((fun (q : Mm) => q) x) = mm_P μ := by
  have hk : mm_P μ = mm_P μ := rfl
  obtain ⟨μ102, e102, h⟩ := bd h
  have hk := (kp_pfI e102).trans hk
  have h := Option.some.inj h
  subst h
  exact hk
theorem p_X6_readDigits_J75 {a0 : Nat} {μ : Mm} {x : Mm} (h : f_X6_readDigits_J75 a0 μ = some x) : mm_P ((fun (q : Mm) => q) x) = mm_P μ := by
  have hk : mm_P μ = mm_P μ := rfl
  obtain ⟨x77, e77, h⟩ := bd h
  obtain ⟨x81, e81, h⟩ := bd h
  obtain ⟨μ85, e85, h⟩ := bd h
  have hk := (kp_pfI e85).trans hk
  obtain ⟨x90, e90, h⟩ := bd h
  rcases ite_e h with ⟨_, h⟩ | ⟨_, h⟩
  · exact (p_X6_readDigits_J102 h).trans hk
  · exact (p_X6_readDigits_J102 h).trans hk
theorem p_X6_readDigits_L5 {a0 : Nat} {s5 : Mm} {x : ((Mm) ⊕ (Mm))} (h : f_X6_readDigits_L5 a0 s5 = some x) : mm_P (sm (fun (q : Mm) => q) (fun (q : Mm) => q) x) = mm_P ((fun (q : Mm) => q) s5) := by
  have hk : mm_P (s5) = mm_P (s5) := rfl
  obtain ⟨x6, e6, h⟩ := bd h
  obtain ⟨x10, e10, h⟩ := bd h
  obtain ⟨x13, e13, h⟩ := bd h
  rcases ite_e h with ⟨_, h⟩ | ⟨_, h⟩
  · have h := Option.some.inj h
    subst h
    exact hk
  · obtain ⟨x20, e20, h⟩ := bd h
    obtain ⟨x24, e24, h⟩ := bd h
    obtain ⟨x27, e27, h⟩ := bd h
    obtain ⟨x30, e30, h⟩ := bd h
    rcases ite_e h with ⟨_, h⟩ | ⟨_, h⟩
    · have h := Option.some.inj h
      subst h
      exact hk
    · obtain ⟨x38, e38, h⟩ := bd h
      obtain ⟨x45, e45, h⟩ := bd h
      obtain ⟨x49, e49, h⟩ := bd h
      obtain ⟨x52, e52, h⟩ := bd h
      obtain ⟨μ59, e59, h⟩ := bd h
      have hk := (kp_pfI e59).trans hk
      obtain ⟨x64, e64, h⟩ := bd h
      obtain ⟨μ69, e69, h⟩ := bd h
      have hk := (kp_pfI e69).trans hk
      have h := Option.some.inj h
      subst h
      exact hk
theorem p_X6_readDigits_W5 {a0 : Nat} {s5 : Mm} {b : Mm} (h : whl (f_X6_readDigits_L5 a0) s5 = some b) : mm_P ((fun (q : Mm) => q) b) = mm_P ((fun (q : Mm) => q) s5) :=
  whl_P (g := (fun (q : Mm) => q)) (gb := (fun (q : Mm) => q)) (fun s x hx => p_X6_readDigits_L5 hx) h
theorem p_X6_readDigits {a0 : Nat} {μ : Mm} {x : Mm} (h : f_X6_readDigits a0 μ = some x) : mm_P ((fun (q : Mm) => q) x) = mm_P μ := by
  have hk : mm_P μ = mm_P μ := rfl
  obtain ⟨_, h⟩ := ite_p h
  obtain ⟨μ2, e2, h⟩ := bd h
  have hk := (kp_pfI e2).trans hk
  obtain ⟨b5, w5, h⟩ := bd h
  have hk := (p_X6_readDigits_W5 w5).trans hk
  exact (p_X6_readDigits_J75 h).trans hk
theorem p_X6_readWord_J105  {k0 : Nat} {k1 : Int32} {μ : Mm} {x : Mm} (h : f_X6_readWord_J105 k0 k1 μ = some x) : mm_P ((fun (q : Mm) => q) x) = mm_P μ := by
  have hk : mm_P μ = mm_P μ := rfl
  obtain ⟨μ105, e105, h⟩ := bd h
  have hk := (kp_pfI e105).trans hk
  have h := Option.some.inj h
  subst h
  exact hk
theorem p_X6_readWord_J77 {a0 : Nat} {μ : Mm} {x : Mm} (h : f_X6_readWord_J77 a0 μ = some x) : mm_P ((fun (q : Mm) => q) x) = mm_P μ := by
  have hk : mm_P μ = mm_P μ := rfl
  obtain ⟨x79, e79, h⟩ := bd h
  obtain ⟨x83, e83, h⟩ := bd h
  obtain ⟨μ87, e87, h⟩ := bd h
  have hk := (kp_pfI e87).trans hk
  obtain ⟨x92, e92, h⟩ := bd h
  rcases ite_e h with ⟨_, h⟩ | ⟨_, h⟩
  · exact (p_X6_readWord_J105 h).trans hk
  · exact (p_X6_readWord_J105 h).trans hk
theorem p_X6_readWord_L5 {a0 : Nat} {s5 : Mm} {x : ((Mm) ⊕ (Mm))} (h : f_X6_readWord_L5 a0 s5 = some x) : mm_P (sm (fun (q : Mm) => q) (fun (q : Mm) => q) x) = mm_P ((fun (q : Mm) => q) s5) := by
  have hk : mm_P (s5) = mm_P (s5) := rfl
  obtain ⟨x6, e6, h⟩ := bd h
  obtain ⟨x10, e10, h⟩ := bd h
  obtain ⟨x13, e13, h⟩ := bd h
  rcases ite_e h with ⟨_, h⟩ | ⟨_, h⟩
  · have h := Option.some.inj h
    subst h
    exact hk
  · obtain ⟨x20, e20, h⟩ := bd h
    obtain ⟨x24, e24, h⟩ := bd h
    obtain ⟨x27, e27, h⟩ := bd h
    obtain ⟨x30, e30, h⟩ := bd h
    rcases ite_e h with ⟨_, h⟩ | ⟨_, h⟩
    · have h := Option.some.inj h
      subst h
      exact hk
    · obtain ⟨x38, e38, h⟩ := bd h
      obtain ⟨x44, e44, h⟩ := bd h
      obtain ⟨x48, e48, h⟩ := bd h
      obtain ⟨x51, e51, h⟩ := bd h
      obtain ⟨μ61, e61, h⟩ := bd h
      have hk := (kp_pfL e61).trans hk
      obtain ⟨x66, e66, h⟩ := bd h
      obtain ⟨μ71, e71, h⟩ := bd h
      have hk := (kp_pfI e71).trans hk
      have h := Option.some.inj h
      subst h
      exact hk
theorem p_X6_readWord_W5 {a0 : Nat} {s5 : Mm} {b : Mm} (h : whl (f_X6_readWord_L5 a0) s5 = some b) : mm_P ((fun (q : Mm) => q) b) = mm_P ((fun (q : Mm) => q) s5) :=
  whl_P (g := (fun (q : Mm) => q)) (gb := (fun (q : Mm) => q)) (fun s x hx => p_X6_readWord_L5 hx) h
theorem p_X6_readWord {a0 : Nat} {μ : Mm} {x : Mm} (h : f_X6_readWord a0 μ = some x) : mm_P ((fun (q : Mm) => q) x) = mm_P μ := by
  have hk : mm_P μ = mm_P μ := rfl
  obtain ⟨_, h⟩ := ite_p h
  obtain ⟨μ2, e2, h⟩ := bd h
  have hk := (kp_pfL e2).trans hk
  obtain ⟨b5, w5, h⟩ := bd h
  have hk := (p_X6_readWord_W5 w5).trans hk
  exact (p_X6_readWord_J77 h).trans hk
theorem p_X6_skipBlanks_J46 {a0 : Nat} {μ : Mm} {x : ((Mm) ⊕ (Mm))} (h : f_X6_skipBlanks_J46 a0 μ = some x) : mm_P ((sm (fun (q : Mm) => q) (fun (q : Mm) => q)) x) = mm_P μ := by
  have hk : mm_P μ = mm_P μ := rfl
  obtain ⟨x48, e48, h⟩ := bd h
  obtain ⟨μ53, e53, h⟩ := bd h
  have hk := (kp_pfI e53).trans hk
  have h := Option.some.inj h
  subst h
  exact hk
theorem p_X6_skipBlanks_L0 {a0 : Nat} {s0 : Mm} {x : ((Mm) ⊕ (Mm))} (h : f_X6_skipBlanks_L0 a0 s0 = some x) : mm_P (sm (fun (q : Mm) => q) (fun (q : Mm) => q) x) = mm_P ((fun (q : Mm) => q) s0) := by
  have hk : mm_P (s0) = mm_P (s0) := rfl
  obtain ⟨x1, e1, h⟩ := bd h
  obtain ⟨x5, e5, h⟩ := bd h
  obtain ⟨x8, e8, h⟩ := bd h
  rcases ite_e h with ⟨_, h⟩ | ⟨_, h⟩
  · have h := Option.some.inj h
    subst h
    exact hk
  · obtain ⟨x15, e15, h⟩ := bd h
    obtain ⟨x19, e19, h⟩ := bd h
    obtain ⟨x22, e22, h⟩ := bd h
    rcases ite_e h with ⟨_, h⟩ | ⟨_, h⟩
    · exact (p_X6_skipBlanks_J46 h).trans hk
    · obtain ⟨x31, e31, h⟩ := bd h
      obtain ⟨x35, e35, h⟩ := bd h
      obtain ⟨x38, e38, h⟩ := bd h
      rcases ite_e h with ⟨_, h⟩ | ⟨_, h⟩
      · exact (p_X6_skipBlanks_J46 h).trans hk
      · have h := Option.some.inj h
        subst h
        exact hk
theorem p_X6_skipBlanks_W0 {a0 : Nat} {s0 : Mm} {b : Mm} (h : whl (f_X6_skipBlanks_L0 a0) s0 = some b) : mm_P ((fun (q : Mm) => q) b) = mm_P ((fun (q : Mm) => q) s0) :=
  whl_P (g := (fun (q : Mm) => q)) (gb := (fun (q : Mm) => q)) (fun s x hx => p_X6_skipBlanks_L0 hx) h
theorem p_X6_skipBlanks {a0 : Nat} {μ : Mm} {x : Mm} (h : f_X6_skipBlanks a0 μ = some x) : mm_P ((fun (q : Mm) => q) x) = mm_P μ := by
  have hk : mm_P μ = mm_P μ := rfl
  obtain ⟨_, h⟩ := ite_p h
  obtain ⟨b0, w0, h⟩ := bd h
  have hk := (p_X6_skipBlanks_W0 w0).trans hk
  have h := Option.some.inj h
  subst h
  exact hk
theorem p_X6_advance_J77 {a0 : Nat} {k0 : Nat} {k1 : Int32} {μ : Mm} {x : Mm} (h : f_X6_advance_J77 a0 k0 k1 μ = some x) : mm_P ((fun (q : Mm) => q) x) = mm_P μ := by
  have hk : mm_P μ = mm_P μ := rfl
  obtain ⟨μ77, e77, h⟩ := bd h
  have hk := (kp_pfI e77).trans hk
  obtain ⟨x82, e82, h⟩ := bd h
  obtain ⟨μ87, e87, h⟩ := bd h
  have hk := (kp_pfI e87).trans hk
  have h := Option.some.inj h
  subst h
  exact hk
theorem p_X6_advance {a0 : Nat} {μ : Mm} {x : Mm} (h : f_X6_advance a0 μ = some x) : mm_P ((fun (q : Mm) => q) x) = mm_P μ := by
  have hk : mm_P μ = mm_P μ := rfl
  obtain ⟨_, h⟩ := ite_p h
  obtain ⟨x1, e1, h⟩ := bd h
  have hk := (p_X6_skipBlanks e1).trans hk
  obtain ⟨x6, e6, h⟩ := bd h
  obtain ⟨μ9, e9, h⟩ := bd h
  have hk := (kp_pfI e9).trans hk
  obtain ⟨x13, e13, h⟩ := bd h
  obtain ⟨x17, e17, h⟩ := bd h
  obtain ⟨x20, e20, h⟩ := bd h
  rcases ite_e h with ⟨_, h⟩ | ⟨_, h⟩
  · obtain ⟨μ31, e31, h⟩ := bd h
    have hk := (kp_pfI e31).trans hk
    have h := Option.some.inj h
    subst h
    exact hk
  · obtain ⟨x38, e38, h⟩ := bd h
    rcases ite_e h with ⟨_, h⟩ | ⟨_, h⟩
    · obtain ⟨x52, e52, h⟩ := bd h
      rcases ite_e h with ⟨_, h⟩ | ⟨_, h⟩
      · rcases ite_e h with ⟨_, h⟩ | ⟨_, h⟩
        · exact (p_X6_advance_J77 h).trans hk
        · exact (p_X6_advance_J77 h).trans hk
      · obtain ⟨x59, e59, h⟩ := bd h
        have hk := (p_X6_readDigits e59).trans hk
        have h := Option.some.inj h
        subst h
        exact hk
    · obtain ⟨x45, e45, h⟩ := bd h
      have hk := (p_X6_readWord e45).trans hk
      have h := Option.some.inj h
      subst h
      exact hk
theorem p_X6_rewind {a0 : Nat} {μ : Mm} {x : Mm} (h : f_X6_rewind a0 μ = some x) : mm_P ((fun (q : Mm) => q) x) = mm_P μ := by
  have hk : mm_P μ = mm_P μ := rfl
  obtain ⟨_, h⟩ := ite_p h
  obtain ⟨μ2, e2, h⟩ := bd h
  have hk := (kp_pfI e2).trans hk
  have h := Option.some.inj h
  subst h
  exact hk
theorem p_X10_judgedBook_J151 {a0 : Nat} {l1 : Int32} {l2 : Int32} {μ : Mm} {x : ((Int32 × Int32 × Mm) ⊕ ((Int32 × Int32 × Mm) ⊕ ((Mm) ⊕ (Mm))))} (h : f_X10_judgedBook_J151 a0 l1 l2 μ = some x) : mm_P ((sm (fun (q : Int32 × Int32 × Mm) => q.2.2) (sm (fun (q : Int32 × Int32 × Mm) => q.2.2) (sm (fun (q : Mm) => q) (fun (q : Mm) => q)))) x) = mm_P μ := by
  have hk : mm_P μ = mm_P μ := rfl
  obtain ⟨v151, e151, h⟩ := bd h
  have h := Option.some.inj h
  subst h
  exact hk
theorem p_X10_judgedBook_J46 {l1 : Int32} {l2 : Int32} {μ : Mm} {x : (Int32 × Mm)} (h : f_X10_judgedBook_J46 l1 l2 μ = some x) : mm_P ((fun (q : (Int32 × Mm)) => q.2) x) = mm_P μ := by
  have hk : mm_P μ = mm_P μ := rfl
  rcases ite_e h with ⟨_, h⟩ | ⟨_, h⟩
  · have h := Option.some.inj h
    subst h
    exact hk
  · have h := Option.some.inj h
    subst h
    exact hk
theorem p_X10_judgedBook_L22 {a0 : Nat} {s22 : Int32 × Int32 × Mm} {x : ((Int32 × Int32 × Mm) ⊕ ((Int32 × Int32 × Mm) ⊕ ((Mm) ⊕ (Mm))))} (h : f_X10_judgedBook_L22 a0 s22 = some x) : mm_P (sm (fun (q : Int32 × Int32 × Mm) => q.2.2) (sm (fun (q : Int32 × Int32 × Mm) => q.2.2) (sm (fun (q : Mm) => q) (fun (q : Mm) => q))) x) = mm_P ((fun (q : Int32 × Int32 × Mm) => q.2.2) s22) := by
  have hk : mm_P (s22.2.2) = mm_P (s22.2.2) := rfl
  rcases ite_e h with ⟨_, h⟩ | ⟨_, h⟩
  · have h := Option.some.inj h
    subst h
    exact hk
  · obtain ⟨x30, e30, h⟩ := bd h
    obtain ⟨x33, e33, h⟩ := bd h
    have hk := (p_X6_advance e33).trans hk
    obtain ⟨x37, e37, h⟩ := bd h
    obtain ⟨x40, e40, h⟩ := bd h
    rcases ite_e h with ⟨_, h⟩ | ⟨_, h⟩
    · have h := Option.some.inj h
      subst h
      exact hk
    · obtain ⟨x62, e62, h⟩ := bd h
      obtain ⟨x67, e67, h⟩ := bd h
      obtain ⟨x70, e70, h⟩ := bd h
      have hk := (p_X6_advance e70).trans hk
      obtain ⟨x76, e76, h⟩ := bd h
      obtain ⟨x82, e82, h⟩ := bd h
      obtain ⟨x85, e85, h⟩ := bd h
      have hk := (p_X6_advance e85).trans hk
      obtain ⟨x91, e91, h⟩ := bd h
      obtain ⟨x97, e97, h⟩ := bd h
      obtain ⟨x100, e100, h⟩ := bd h
      have hk := (p_X6_advance e100).trans hk
      rcases ite_e h with ⟨_, h⟩ | ⟨_, h⟩
      · have h := Option.some.inj h
        subst h
        exact hk
      · rcases ite_e h with ⟨_, h⟩ | ⟨_, h⟩
        · have h := Option.some.inj h
          subst h
          exact hk
        · rcases ite_e h with ⟨_, h⟩ | ⟨_, h⟩
          · have h := Option.some.inj h
            subst h
            exact hk
          · obtain ⟨x118, e118, h⟩ := bd h
            obtain ⟨x121, e121, h⟩ := bd h
            rcases ite_e h with ⟨_, h⟩ | ⟨_, h⟩
            · rcases ite_e h with ⟨_, h⟩ | ⟨_, h⟩
              · obtain ⟨x143, e143, h⟩ := bd h
                have hk := (p_X10_isActRight e143).trans hk
                rcases ite_e h with ⟨_, h⟩ | ⟨_, h⟩
                · exact (p_X10_judgedBook_J151 h).trans hk
                · exact (p_X10_judgedBook_J151 h).trans hk
              · exact (p_X10_judgedBook_J151 h).trans hk
            · have h := Option.some.inj h
              subst h
              exact hk
theorem p_X10_judgedBook_W22 {a0 : Nat} {s22 : Int32 × Int32 × Mm} {b : (Int32 × Int32 × Mm) ⊕ ((Mm) ⊕ (Mm))} (h : whl (f_X10_judgedBook_L22 a0) s22 = some b) : mm_P ((sm (fun (q : Int32 × Int32 × Mm) => q.2.2) (sm (fun (q : Mm) => q) (fun (q : Mm) => q))) b) = mm_P ((fun (q : Int32 × Int32 × Mm) => q.2.2) s22) :=
  whl_P (g := (fun (q : Int32 × Int32 × Mm) => q.2.2)) (gb := (sm (fun (q : Int32 × Int32 × Mm) => q.2.2) (sm (fun (q : Mm) => q) (fun (q : Mm) => q)))) (fun s x hx => p_X10_judgedBook_L22 hx) h
theorem p_X10_judgedBook {a0 : Nat} {μ : Mm} {x : (Int32 × Mm)} (h : f_X10_judgedBook a0 μ = some x) : mm_P ((fun (q : (Int32 × Mm)) => q.2) x) = mm_P μ := by
  have hk : mm_P μ = mm_P μ := rfl
  obtain ⟨_, h⟩ := ite_p h
  obtain ⟨x1, e1, h⟩ := bd h
  obtain ⟨x5, e5, h⟩ := bd h
  obtain ⟨x8, e8, h⟩ := bd h
  have hk := (p_X4_setTurning e8).trans hk
  obtain ⟨x12, e12, h⟩ := bd h
  obtain ⟨x15, e15, h⟩ := bd h
  have hk := (p_X6_rewind e15).trans hk
  obtain ⟨b22, w22, h⟩ := bd h
  have hk := (p_X10_judgedBook_W22 w22).trans hk
  rcases b22 with b22 | b22
  · exact (p_X10_judgedBook_J46 h).trans hk
  · rcases b22 with b22 | b22
    · have h := Option.some.inj h
      subst h
      exact hk
    · have h := Option.some.inj h
      subst h
      exact hk
theorem p_X10_judge {a0 : Nat} {μ : Mm} {x : (Int32 × Mm)} (h : f_X10_judge a0 μ = some x) : mm_P ((fun (q : (Int32 × Mm)) => q.2) x) = mm_P μ := by
  have hk : mm_P μ = mm_P μ := rfl
  obtain ⟨_, h⟩ := ite_p h
  obtain ⟨x1, e1, h⟩ := bd h
  have hk := (p_X10_judgedBook e1).trans hk
  obtain ⟨x6, e6, h⟩ := bd h
  obtain ⟨μ10, e10, h⟩ := bd h
  have hk := (kp_pfI e10).trans hk
  have h := Option.some.inj h
  subst h
  exact hk
theorem p_X3_copyFrom {a0 : Nat} {l1 : Nat} {μ : Mm} {x : Mm} (h : f_X3_copyFrom a0 l1 μ = some x) : mm_P ((fun (q : Mm) => q) x) = mm_P μ := by
  have hk : mm_P μ = mm_P μ := rfl
  obtain ⟨_, h⟩ := ite_p h
  obtain ⟨x2, e2, h⟩ := bd h
  obtain ⟨μ5, e5, h⟩ := bd h
  have hk := (kp_pfZ e5).trans hk
  obtain ⟨x10, e10, h⟩ := bd h
  obtain ⟨μ13, e13, h⟩ := bd h
  have hk := (kp_pfI e13).trans hk
  obtain ⟨x18, e18, h⟩ := bd h
  obtain ⟨μ21, e21, h⟩ := bd h
  have hk := (kp_pfI e21).trans hk
  obtain ⟨x26, e26, h⟩ := bd h
  obtain ⟨μ29, e29, h⟩ := bd h
  have hk := (kp_pfI e29).trans hk
  obtain ⟨x33, e33, h⟩ := bd h
  obtain ⟨x38, e38, h⟩ := bd h
  obtain ⟨μ44, e44, h⟩ := bd h
  have hk := (kp_cpI e44).trans hk
  have h := Option.some.inj h
  subst h
  exact hk
theorem p_X10_keep {a0 : Nat} {l1 : Int32} {μ : Mm} {x : (Int32 × Mm)} (h : f_X10_keep a0 l1 μ = some x) : mm_P ((fun (q : (Int32 × Mm)) => q.2) x) = mm_P μ := by
  have hk : mm_P μ = mm_P μ := rfl
  obtain ⟨_, h⟩ := ite_p h
  rcases ite_e h with ⟨_, h⟩ | ⟨_, h⟩
  · have h := Option.some.inj h
    subst h
    exact hk
  · obtain ⟨x6, e6, h⟩ := bd h
    obtain ⟨x9, e9, h⟩ := bd h
    rcases ite_e h with ⟨_, h⟩ | ⟨_, h⟩
    · obtain ⟨x17, e17, h⟩ := bd h
      obtain ⟨x20, e20, h⟩ := bd h
      rcases ite_e h with ⟨_, h⟩ | ⟨_, h⟩
      · have h := Option.some.inj h
        subst h
        exact hk
      · obtain ⟨x30, e30, h⟩ := bd h
        obtain ⟨x34, e34, h⟩ := bd h
        obtain ⟨x36, e36, h⟩ := bd h
        obtain ⟨x39, e39, h⟩ := bd h
        have hk := (p_X3_copyFrom e39).trans hk
        obtain ⟨x43, e43, h⟩ := bd h
        obtain ⟨x46, e46, h⟩ := bd h
        have h := Option.some.inj h
        subst h
        exact hk
    · have h := Option.some.inj h
      subst h
      exact hk
theorem p_X10_isKeptBy {a0 : Nat} {l1 : Int32} {l2 : Int32} {l3 : Int32} {l4 : Int32} {μ : Mm} {x : (Int32 × Mm)} (h : f_X10_isKeptBy a0 l1 l2 l3 l4 μ = some x) : mm_P ((fun (q : (Int32 × Mm)) => q.2) x) = mm_P μ := by
  have hk : mm_P μ = mm_P μ := rfl
  obtain ⟨_, h⟩ := ite_p h
  obtain ⟨x1, e1, h⟩ := bd h
  obtain ⟨x8, e8, h⟩ := bd h
  have hk := (p_X4_setFact e8).trans hk
  obtain ⟨x12, e12, h⟩ := bd h
  obtain ⟨x17, e17, h⟩ := bd h
  rcases ite_e h with ⟨_, h⟩ | ⟨_, h⟩
  · have h := Option.some.inj h
    subst h
    exact hk
  · have h := Option.some.inj h
    subst h
    exact hk
theorem p_X10_kept_J100 {a0 : Nat} {l1 : Int32} {l2 : Int32} {l3 : Int32} {l4 : Int32} {l5 : Int32} {l6 : Int32} {μ : Mm} {x : ((Int32 × Int32 × Int32 × Mm) ⊕ (Int32 × Mm))} (h : f_X10_kept_J100 a0 l1 l2 l3 l4 l5 l6 μ = some x) : mm_P ((sm (fun (q : Int32 × Int32 × Int32 × Mm) => q.2.2.2) (fun (q : Int32 × Mm) => q.2)) x) = mm_P μ := by
  have hk : mm_P μ = mm_P μ := rfl
  obtain ⟨v100, e100, h⟩ := bd h
  have h := Option.some.inj h
  subst h
  exact hk
theorem p_X10_kept_L53 {a0 : Nat} {l1 : Int32} {l2 : Int32} {l3 : Int32} {s53 : Int32 × Int32 × Int32 × Mm} {x : ((Int32 × Int32 × Int32 × Mm) ⊕ (Int32 × Mm))} (h : f_X10_kept_L53 a0 l1 l2 l3 s53 = some x) : mm_P (sm (fun (q : Int32 × Int32 × Int32 × Mm) => q.2.2.2) (fun (q : Int32 × Mm) => q.2) x) = mm_P ((fun (q : Int32 × Int32 × Int32 × Mm) => q.2.2.2) s53) := by
  have hk : mm_P (s53.2.2.2) = mm_P (s53.2.2.2) := rfl
  obtain ⟨x57, e57, h⟩ := bd h
  obtain ⟨x60, e60, h⟩ := bd h
  rcases ite_e h with ⟨_, h⟩ | ⟨_, h⟩
  · have h := Option.some.inj h
    subst h
    exact hk
  · obtain ⟨x69, e69, h⟩ := bd h
    rcases ite_e h with ⟨_, h⟩ | ⟨_, h⟩
    · exact (p_X10_kept_J100 h).trans hk
    · obtain ⟨x83, e83, h⟩ := bd h
      have hk := (p_X10_isKeptBy e83).trans hk
      rcases ite_e h with ⟨_, h⟩ | ⟨_, h⟩
      · exact (p_X10_kept_J100 h).trans hk
      · obtain ⟨x91, e91, h⟩ := bd h
        exact (p_X10_kept_J100 h).trans hk
theorem p_X10_kept_W53 {a0 : Nat} {l1 : Int32} {l2 : Int32} {l3 : Int32} {s53 : Int32 × Int32 × Int32 × Mm} {b : Int32 × Mm} (h : whl (f_X10_kept_L53 a0 l1 l2 l3) s53 = some b) : mm_P ((fun (q : Int32 × Mm) => q.2) b) = mm_P ((fun (q : Int32 × Int32 × Int32 × Mm) => q.2.2.2) s53) :=
  whl_P (g := (fun (q : Int32 × Int32 × Int32 × Mm) => q.2.2.2)) (gb := (fun (q : Int32 × Mm) => q.2)) (fun s x hx => p_X10_kept_L53 hx) h
theorem p_X10_kept {a0 : Nat} {l1 : Int32} {l2 : Int32} {l3 : Int32} {μ : Mm} {x : (Int32 × Mm)} (h : f_X10_kept a0 l1 l2 l3 μ = some x) : mm_P ((fun (q : (Int32 × Mm)) => q.2) x) = mm_P μ := by
  have hk : mm_P μ = mm_P μ := rfl
  obtain ⟨_, h⟩ := ite_p h
  obtain ⟨x1, e1, h⟩ := bd h
  obtain ⟨x5, e5, h⟩ := bd h
  rcases ite_e h with ⟨_, h⟩ | ⟨_, h⟩
  · have h := Option.some.inj h
    subst h
    exact hk
  · obtain ⟨x12, e12, h⟩ := bd h
    obtain ⟨x16, e16, h⟩ := bd h
    rcases ite_e h with ⟨_, h⟩ | ⟨_, h⟩
    · have h := Option.some.inj h
      subst h
      exact hk
    · obtain ⟨x23, e23, h⟩ := bd h
      rcases ite_e h with ⟨_, h⟩ | ⟨_, h⟩
      · have h := Option.some.inj h
        subst h
        exact hk
      · obtain ⟨x33, e33, h⟩ := bd h
        obtain ⟨x37, e37, h⟩ := bd h
        obtain ⟨x40, e40, h⟩ := bd h
        have hk := (p_X4_setTurning e40).trans hk
        obtain ⟨b53, w53, h⟩ := bd h
        have hk := (p_X10_kept_W53 w53).trans hk
        have h := Option.some.inj h
        subst h
        exact hk
theorem p_X10_knows_L45 {a0 : Nat} {l1 : Int32} {l2 : Int32} {l3 : Int32} {s45 : Int32 × Int32 × Mm} {x : ((Int32 × Int32 × Mm) ⊕ (Int32 × Mm))} (h : f_X10_knows_L45 a0 l1 l2 l3 s45 = some x) : mm_P (sm (fun (q : Int32 × Int32 × Mm) => q.2.2) (fun (q : Int32 × Mm) => q.2) x) = mm_P ((fun (q : Int32 × Int32 × Mm) => q.2.2) s45) := by
  have hk : mm_P (s45.2.2) = mm_P (s45.2.2) := rfl
  obtain ⟨x48, e48, h⟩ := bd h
  obtain ⟨x51, e51, h⟩ := bd h
  obtain ⟨x54, e54, h⟩ := bd h
  rcases ite_e h with ⟨_, h⟩ | ⟨_, h⟩
  · have h := Option.some.inj h
    subst h
    exact hk
  · obtain ⟨x61, e61, h⟩ := bd h
    obtain ⟨x68, e68, h⟩ := bd h
    have hk := (p_X4_setFact e68).trans hk
    obtain ⟨x74, e74, h⟩ := bd h
    obtain ⟨x78, e78, h⟩ := bd h
    obtain ⟨v89, e89, h⟩ := bd h
    obtain ⟨v91, e91, h⟩ := bd h
    have h := Option.some.inj h
    subst h
    exact hk
theorem p_X10_knows_W45 {a0 : Nat} {l1 : Int32} {l2 : Int32} {l3 : Int32} {s45 : Int32 × Int32 × Mm} {b : Int32 × Mm} (h : whl (f_X10_knows_L45 a0 l1 l2 l3) s45 = some b) : mm_P ((fun (q : Int32 × Mm) => q.2) b) = mm_P ((fun (q : Int32 × Int32 × Mm) => q.2.2) s45) :=
  whl_P (g := (fun (q : Int32 × Int32 × Mm) => q.2.2)) (gb := (fun (q : Int32 × Mm) => q.2)) (fun s x hx => p_X10_knows_L45 hx) h
theorem p_X10_knows {a0 : Nat} {l1 : Int32} {l2 : Int32} {l3 : Int32} {μ : Mm} {x : (Int32 × Mm)} (h : f_X10_knows a0 l1 l2 l3 μ = some x) : mm_P ((fun (q : (Int32 × Mm)) => q.2) x) = mm_P μ := by
  have hk : mm_P μ = mm_P μ := rfl
  obtain ⟨_, h⟩ := ite_p h
  obtain ⟨x1, e1, h⟩ := bd h
  obtain ⟨x5, e5, h⟩ := bd h
  rcases ite_e h with ⟨_, h⟩ | ⟨_, h⟩
  · have h := Option.some.inj h
    subst h
    exact hk
  · obtain ⟨x12, e12, h⟩ := bd h
    rcases ite_e h with ⟨_, h⟩ | ⟨_, h⟩
    · have h := Option.some.inj h
      subst h
      exact hk
    · obtain ⟨x19, e19, h⟩ := bd h
      rcases ite_e h with ⟨_, h⟩ | ⟨_, h⟩
      · have h := Option.some.inj h
        subst h
        exact hk
      · obtain ⟨x29, e29, h⟩ := bd h
        obtain ⟨x33, e33, h⟩ := bd h
        obtain ⟨x36, e36, h⟩ := bd h
        have hk := (p_X4_setTurning e36).trans hk
        obtain ⟨b45, w45, h⟩ := bd h
        have hk := (p_X10_knows_W45 w45).trans hk
        have h := Option.some.inj h
        subst h
        exact hk
theorem p_X10_wishesMet_J143 {a0 : Nat} {l1 : Int32} {l2 : Int32} {l3 : Int32} {μ : Mm} {x : ((Int32 × Int32 × Mm) ⊕ (Int32 × Mm))} (h : f_X10_wishesMet_J143 a0 l1 l2 l3 μ = some x) : mm_P ((sm (fun (q : Int32 × Int32 × Mm) => q.2.2) (fun (q : Int32 × Mm) => q.2)) x) = mm_P μ := by
  have hk : mm_P μ = mm_P μ := rfl
  obtain ⟨v143, e143, h⟩ := bd h
  have h := Option.some.inj h
  subst h
  exact hk
theorem p_X10_wishesMet_J130 {a0 : Nat} {l1 : Int32} {l2 : Int32} {l3 : Int32} {l4 : Int32} {l7 : Int32} {μ : Mm} {x : ((Int32 × Int32 × Mm) ⊕ (Int32 × Mm))} (h : f_X10_wishesMet_J130 a0 l1 l2 l3 l4 l7 μ = some x) : mm_P ((sm (fun (q : Int32 × Int32 × Mm) => q.2.2) (fun (q : Int32 × Mm) => q.2)) x) = mm_P μ := by
  have hk : mm_P μ = mm_P μ := rfl
  rcases ite_e h with ⟨_, h⟩ | ⟨_, h⟩
  · obtain ⟨v142, e142, h⟩ := bd h
    exact (p_X10_wishesMet_J143 h).trans hk
  · exact (p_X10_wishesMet_J143 h).trans hk
theorem p_X10_wishesMet_J128 {a0 : Nat} {l1 : Int32} {l2 : Int32} {l3 : Int32} {l4 : Int32} {k0 : Int32} {μ : Mm} {x : ((Int32 × Int32 × Mm) ⊕ (Int32 × Mm))} (h : f_X10_wishesMet_J128 a0 l1 l2 l3 l4 k0 μ = some x) : mm_P ((sm (fun (q : Int32 × Int32 × Mm) => q.2.2) (fun (q : Int32 × Mm) => q.2)) x) = mm_P μ := by
  have hk : mm_P μ = mm_P μ := rfl
  exact (p_X10_wishesMet_J130 h).trans hk
theorem p_X10_wishesMet_J39 {a0 : Nat} {l1 : Int32} {l2 : Int32} {l3 : Int32} {k0 : Int32} {μ : Mm} {x : ((Int32 × Int32 × Mm) ⊕ (Int32 × Mm))} (h : f_X10_wishesMet_J39 a0 l1 l2 l3 k0 μ = some x) : mm_P ((sm (fun (q : Int32 × Int32 × Mm) => q.2.2) (fun (q : Int32 × Mm) => q.2)) x) = mm_P μ := by
  have hk : mm_P μ = mm_P μ := rfl
  obtain ⟨x42, e42, h⟩ := bd h
  obtain ⟨x45, e45, h⟩ := bd h
  obtain ⟨x50, e50, h⟩ := bd h
  obtain ⟨x56, e56, h⟩ := bd h
  obtain ⟨x59, e59, h⟩ := bd h
  obtain ⟨x64, e64, h⟩ := bd h
  obtain ⟨x73, e73, h⟩ := bd h
  obtain ⟨x78, e78, h⟩ := bd h
  rcases ite_e h with ⟨_, h⟩ | ⟨_, h⟩
  · exact (p_X10_wishesMet_J130 h).trans hk
  · obtain ⟨x85, e85, h⟩ := bd h
    obtain ⟨x93, e93, h⟩ := bd h
    have hk := (p_X4_setFact e93).trans hk
    obtain ⟨x97, e97, h⟩ := bd h
    obtain ⟨x101, e101, h⟩ := bd h
    obtain ⟨x104, e104, h⟩ := bd h
    obtain ⟨x109, e109, h⟩ := bd h
    obtain ⟨x112, e112, h⟩ := bd h
    rcases ite_e h with ⟨_, h⟩ | ⟨_, h⟩
    · exact (p_X10_wishesMet_J128 h).trans hk
    · exact (p_X10_wishesMet_J128 h).trans hk
theorem p_X10_wishesMet_L4 {a0 : Nat} {l1 : Int32} {s4 : Int32 × Int32 × Mm} {x : ((Int32 × Int32 × Mm) ⊕ (Int32 × Mm))} (h : f_X10_wishesMet_L4 a0 l1 s4 = some x) : mm_P (sm (fun (q : Int32 × Int32 × Mm) => q.2.2) (fun (q : Int32 × Mm) => q.2) x) = mm_P ((fun (q : Int32 × Int32 × Mm) => q.2.2) s4) := by
  have hk : mm_P (s4.2.2) = mm_P (s4.2.2) := rfl
  obtain ⟨x6, e6, h⟩ := bd h
  obtain ⟨x9, e9, h⟩ := bd h
  obtain ⟨x12, e12, h⟩ := bd h
  rcases ite_e h with ⟨_, h⟩ | ⟨_, h⟩
  · have h := Option.some.inj h
    subst h
    exact hk
  · obtain ⟨x19, e19, h⟩ := bd h
    obtain ⟨x22, e22, h⟩ := bd h
    obtain ⟨x27, e27, h⟩ := bd h
    rcases ite_e h with ⟨_, h⟩ | ⟨_, h⟩
    · exact (p_X10_wishesMet_J39 h).trans hk
    · exact (p_X10_wishesMet_J39 h).trans hk
theorem p_X10_wishesMet_W4 {a0 : Nat} {l1 : Int32} {s4 : Int32 × Int32 × Mm} {b : Int32 × Mm} (h : whl (f_X10_wishesMet_L4 a0 l1) s4 = some b) : mm_P ((fun (q : Int32 × Mm) => q.2) b) = mm_P ((fun (q : Int32 × Int32 × Mm) => q.2.2) s4) :=
  whl_P (g := (fun (q : Int32 × Int32 × Mm) => q.2.2)) (gb := (fun (q : Int32 × Mm) => q.2)) (fun s x hx => p_X10_wishesMet_L4 hx) h
theorem p_X10_wishesMet {a0 : Nat} {l1 : Int32} {μ : Mm} {x : (Int32 × Mm)} (h : f_X10_wishesMet a0 l1 μ = some x) : mm_P ((fun (q : (Int32 × Mm)) => q.2) x) = mm_P μ := by
  have hk : mm_P μ = mm_P μ := rfl
  obtain ⟨_, h⟩ := ite_p h
  obtain ⟨b4, w4, h⟩ := bd h
  have hk := (p_X10_wishesMet_W4 w4).trans hk
  have h := Option.some.inj h
  subst h
  exact hk
theorem p_X10_met {a0 : Nat} {l1 : Int32} {μ : Mm} {x : (Int32 × Mm)} (h : f_X10_met a0 l1 μ = some x) : mm_P ((fun (q : (Int32 × Mm)) => q.2) x) = mm_P μ := by
  have hk : mm_P μ = mm_P μ := rfl
  obtain ⟨_, h⟩ := ite_p h
  rcases ite_e h with ⟨_, h⟩ | ⟨_, h⟩
  · have h := Option.some.inj h
    subst h
    exact hk
  · obtain ⟨x7, e7, h⟩ := bd h
    obtain ⟨x10, e10, h⟩ := bd h
    rcases ite_e h with ⟨_, h⟩ | ⟨_, h⟩
    · obtain ⟨x21, e21, h⟩ := bd h
      obtain ⟨x25, e25, h⟩ := bd h
      obtain ⟨x28, e28, h⟩ := bd h
      have hk := (p_X4_setTurning e28).trans hk
      obtain ⟨x33, e33, h⟩ := bd h
      have hk := (p_X10_wishesMet e33).trans hk
      have h := Option.some.inj h
      subst h
      exact hk
    · have h := Option.some.inj h
      subst h
      exact hk
theorem p_X10_number {a0 : Nat} {μ : Mm} {x : (Int32 × Mm)} (h : f_X10_number a0 μ = some x) : mm_P ((fun (q : (Int32 × Mm)) => q.2) x) = mm_P μ := by
  have hk : mm_P μ = mm_P μ := rfl
  obtain ⟨_, h⟩ := ite_p h
  obtain ⟨x1, e1, h⟩ := bd h
  obtain ⟨x6, e6, h⟩ := bd h
  obtain ⟨μ10, e10, h⟩ := bd h
  have hk := (kp_pfI e10).trans hk
  have h := Option.some.inj h
  subst h
  exact hk
theorem p_X10_sendSign_L16 {a0 : Nat} {l1 : Int32} {l2 : Int32} {s16 : Int32 × Int32 × Int32 × Mm} {x : ((Int32 × Int32 × Int32 × Mm) ⊕ ((Mm) ⊕ ((Int32 × Mm) ⊕ (Mm))))} (h : f_X10_sendSign_L16 a0 l1 l2 s16 = some x) : mm_P (sm (fun (q : Int32 × Int32 × Int32 × Mm) => q.2.2.2) (sm (fun (q : Mm) => q) (sm (fun (q : Int32 × Mm) => q.2) (fun (q : Mm) => q))) x) = mm_P ((fun (q : Int32 × Int32 × Int32 × Mm) => q.2.2.2) s16) := by
  have hk : mm_P (s16.2.2.2) = mm_P (s16.2.2.2) := rfl
  obtain ⟨x19, e19, h⟩ := bd h
  obtain ⟨x22, e22, h⟩ := bd h
  rcases ite_e h with ⟨_, h⟩ | ⟨_, h⟩
  · have h := Option.some.inj h
    subst h
    exact hk
  · obtain ⟨x27, e27, h⟩ := bd h
    obtain ⟨x34, e34, h⟩ := bd h
    obtain ⟨x42, e42, h⟩ := bd h
    rcases ite_e h with ⟨_, h⟩ | ⟨_, h⟩
    · have h := Option.some.inj h
      subst h
      exact hk
    · rcases ite_e h with ⟨_, h⟩ | ⟨_, h⟩
      · have h := Option.some.inj h
        subst h
        exact hk
      · rcases ite_e h with ⟨_, h⟩ | ⟨_, h⟩
        · have h := Option.some.inj h
          subst h
          exact hk
        · obtain ⟨x68, e68, h⟩ := bd h
          obtain ⟨μ75, e75, h⟩ := bd h
          have hk := (kp_paI e75).trans hk
          obtain ⟨μ81, e81, h⟩ := bd h
          have hk := (kp_pfI e81).trans hk
          rcases ite_e h with ⟨_, h⟩ | ⟨_, h⟩
          · have h := Option.some.inj h
            subst h
            exact hk
          · obtain ⟨v93, e93, h⟩ := bd h
            obtain ⟨v96, e96, h⟩ := bd h
            have h := Option.some.inj h
            subst h
            exact hk
theorem p_X10_sendSign_W16 {a0 : Nat} {l1 : Int32} {l2 : Int32} {s16 : Int32 × Int32 × Int32 × Mm} {b : (Mm) ⊕ ((Int32 × Mm) ⊕ (Mm))} (h : whl (f_X10_sendSign_L16 a0 l1 l2) s16 = some b) : mm_P ((sm (fun (q : Mm) => q) (sm (fun (q : Int32 × Mm) => q.2) (fun (q : Mm) => q))) b) = mm_P ((fun (q : Int32 × Int32 × Int32 × Mm) => q.2.2.2) s16) :=
  whl_P (g := (fun (q : Int32 × Int32 × Int32 × Mm) => q.2.2.2)) (gb := (sm (fun (q : Mm) => q) (sm (fun (q : Int32 × Mm) => q.2) (fun (q : Mm) => q)))) (fun s x hx => p_X10_sendSign_L16 hx) h
theorem p_X10_sendSign {a0 : Nat} {l1 : Int32} {l2 : Int32} {l3 : Int32} {μ : Mm} {x : (Int32 × Mm)} (h : f_X10_sendSign a0 l1 l2 l3 μ = some x) : mm_P ((fun (q : (Int32 × Mm)) => q.2) x) = mm_P μ := by
  have hk : mm_P μ = mm_P μ := rfl
  obtain ⟨_, h⟩ := ite_p h
  obtain ⟨x7, e7, h⟩ := bd h
  obtain ⟨μ12, e12, h⟩ := bd h
  have hk := (kp_paI e12).trans hk
  obtain ⟨b16, w16, h⟩ := bd h
  have hk := (p_X10_sendSign_W16 w16).trans hk
  rcases b16 with b16 | b16
  · have h := Option.some.inj h
    subst h
    exact hk
  · rcases b16 with b16 | b16
    · have h := Option.some.inj h
      subst h
      exact hk
    · have h := Option.some.inj h
      subst h
      exact hk
theorem p_X10_over {a0 : Nat} {l1 : Int32} {l2 : Int32} {l3 : Int32} {l4 : Int32} {μ : Mm} {x : (Int32 × Mm)} (h : f_X10_over a0 l1 l2 l3 l4 μ = some x) : mm_P ((fun (q : (Int32 × Mm)) => q.2) x) = mm_P μ := by
  have hk : mm_P μ = mm_P μ := rfl
  obtain ⟨_, h⟩ := ite_p h
  obtain ⟨x1, e1, h⟩ := bd h
  obtain ⟨x5, e5, h⟩ := bd h
  rcases ite_e h with ⟨_, h⟩ | ⟨_, h⟩
  · have h := Option.some.inj h
    subst h
    exact hk
  · obtain ⟨x12, e12, h⟩ := bd h
    obtain ⟨x16, e16, h⟩ := bd h
    rcases ite_e h with ⟨_, h⟩ | ⟨_, h⟩
    · have h := Option.some.inj h
      subst h
      exact hk
    · obtain ⟨x23, e23, h⟩ := bd h
      rcases ite_e h with ⟨_, h⟩ | ⟨_, h⟩
      · have h := Option.some.inj h
        subst h
        exact hk
      · rcases ite_e h with ⟨_, h⟩ | ⟨_, h⟩
        · rcases ite_e h with ⟨_, h⟩ | ⟨_, h⟩
          · have h := Option.some.inj h
            subst h
            exact hk
          · obtain ⟨x49, e49, h⟩ := bd h
            have hk := (p_X10_sendSign e49).trans hk
            rcases ite_e h with ⟨_, h⟩ | ⟨_, h⟩
            · have h := Option.some.inj h
              subst h
              exact hk
            · obtain ⟨x59, e59, h⟩ := bd h
              rcases ite_e h with ⟨_, h⟩ | ⟨_, h⟩
              · have h := Option.some.inj h
                subst h
                exact hk
              · obtain ⟨x68, e68, h⟩ := bd h
                obtain ⟨x71, e71, h⟩ := bd h
                rcases ite_e h with ⟨_, h⟩ | ⟨_, h⟩
                · obtain ⟨x78, e78, h⟩ := bd h
                  obtain ⟨x83, e83, h⟩ := bd h
                  have h := Option.some.inj h
                  subst h
                  exact hk
                · have h := Option.some.inj h
                  subst h
                  exact hk
        · have h := Option.some.inj h
          subst h
          exact hk
theorem p_X10_parts_J129 {a0 : Nat} {l1 : Int32} {l2 : Int32} {l3 : Int32} {μ : Mm} {x : (Int64 × Mm)} (h : f_X10_parts_J129 a0 l1 l2 l3 μ = some x) : mm_P ((fun (q : (Int64 × Mm)) => q.2) x) = mm_P μ := by
  have hk : mm_P μ = mm_P μ := rfl
  obtain ⟨x130, e130, h⟩ := bd h
  obtain ⟨x138, e138, h⟩ := bd h
  have h := Option.some.inj h
  subst h
  exact hk
theorem p_X10_parts_J123 {a0 : Nat} {l1 : Int32} {l2 : Int32} {l3 : Int32} {l4 : Int32} {μ : Mm} {x : ((Int32 × Mm) ⊕ (Mm))} (h : f_X10_parts_J123 a0 l1 l2 l3 l4 μ = some x) : mm_P ((sm (fun (q : Int32 × Mm) => q.2) (fun (q : Mm) => q)) x) = mm_P μ := by
  have hk : mm_P μ = mm_P μ := rfl
  obtain ⟨v123, e123, h⟩ := bd h
  have h := Option.some.inj h
  subst h
  exact hk
theorem p_X10_parts_L54 {a0 : Nat} {l1 : Int32} {l2 : Int32} {l3 : Int32} {l4 : Int32} {s54 : Int32 × Mm} {x : ((Int32 × Mm) ⊕ (Mm))} (h : f_X10_parts_L54 a0 l1 l2 l3 l4 s54 = some x) : mm_P (sm (fun (q : Int32 × Mm) => q.2) (fun (q : Mm) => q) x) = mm_P ((fun (q : Int32 × Mm) => q.2) s54) := by
  have hk : mm_P (s54.2) = mm_P (s54.2) := rfl
  rcases ite_e h with ⟨_, h⟩ | ⟨_, h⟩
  · have h := Option.some.inj h
    subst h
    exact hk
  · obtain ⟨x61, e61, h⟩ := bd h
    obtain ⟨x73, e73, h⟩ := bd h
    obtain ⟨x77, e77, h⟩ := bd h
    obtain ⟨x91, e91, h⟩ := bd h
    obtain ⟨x95, e95, h⟩ := bd h
    obtain ⟨μ116, e116, h⟩ := bd h
    have hk := (kp_paL e116).trans hk
    obtain ⟨v117, e117, h⟩ := bd h
    have h := Option.some.inj h
    subst h
    exact hk
theorem p_X10_parts_W54 {a0 : Nat} {l1 : Int32} {l2 : Int32} {l3 : Int32} {l4 : Int32} {s54 : Int32 × Mm} {b : Mm} (h : whl (f_X10_parts_L54 a0 l1 l2 l3 l4) s54 = some b) : mm_P ((fun (q : Mm) => q) b) = mm_P ((fun (q : Int32 × Mm) => q.2) s54) :=
  whl_P (g := (fun (q : Int32 × Mm) => q.2)) (gb := (fun (q : Mm) => q)) (fun s x hx => p_X10_parts_L54 hx) h
theorem p_X10_parts_L45 {a0 : Nat} {l1 : Int32} {l2 : Int32} {l3 : Int32} {s45 : Int32 × Mm} {x : ((Int32 × Mm) ⊕ (Mm))} (h : f_X10_parts_L45 a0 l1 l2 l3 s45 = some x) : mm_P (sm (fun (q : Int32 × Mm) => q.2) (fun (q : Mm) => q) x) = mm_P ((fun (q : Int32 × Mm) => q.2) s45) := by
  have hk : mm_P (s45.2) = mm_P (s45.2) := rfl
  rcases ite_e h with ⟨_, h⟩ | ⟨_, h⟩
  · have h := Option.some.inj h
    subst h
    exact hk
  · obtain ⟨b54, w54, h⟩ := bd h
    have hk := (p_X10_parts_W54 w54).trans hk
    exact (p_X10_parts_J123 h).trans hk
theorem p_X10_parts_W45 {a0 : Nat} {l1 : Int32} {l2 : Int32} {l3 : Int32} {s45 : Int32 × Mm} {b : Mm} (h : whl (f_X10_parts_L45 a0 l1 l2 l3) s45 = some b) : mm_P ((fun (q : Mm) => q) b) = mm_P ((fun (q : Int32 × Mm) => q.2) s45) :=
  whl_P (g := (fun (q : Int32 × Mm) => q.2)) (gb := (fun (q : Mm) => q)) (fun s x hx => p_X10_parts_L45 hx) h
theorem p_X10_parts {a0 : Nat} {l1 : Int32} {l2 : Int32} {μ : Mm} {x : (Int64 × Mm)} (h : f_X10_parts a0 l1 l2 μ = some x) : mm_P ((fun (q : (Int64 × Mm)) => q.2) x) = mm_P μ := by
  have hk : mm_P μ = mm_P μ := rfl
  obtain ⟨_, h⟩ := ite_p h
  rcases ite_e h with ⟨_, h⟩ | ⟨_, h⟩
  · have h := Option.some.inj h
    subst h
    exact hk
  · rcases ite_e h with ⟨_, h⟩ | ⟨_, h⟩
    · have h := Option.some.inj h
      subst h
      exact hk
    · rcases ite_e h with ⟨_, h⟩ | ⟨_, h⟩
      · have h := Option.some.inj h
        subst h
        exact hk
      · rcases ite_e h with ⟨_, h⟩ | ⟨_, h⟩
        · obtain ⟨x28, e28, h⟩ := bd h
          obtain ⟨x32, e32, h⟩ := bd h
          have hk := (p_J7_fill_d0a16 e32).trans hk
          obtain ⟨x36, e36, h⟩ := bd h
          obtain ⟨μ41, e41, h⟩ := bd h
          have hk := (kp_paL e41).trans hk
          obtain ⟨b45, w45, h⟩ := bd h
          have hk := (p_X10_parts_W45 w45).trans hk
          exact (p_X10_parts_J129 h).trans hk
        · have h := Option.some.inj h
          subst h
          exact hk
theorem p_X10_plan_J87 {a0 : Nat} {l1 : Int32} {l2 : Int32} {l3 : Int32} {μ : Mm} {x : ((Int32 × Int32 × Int32 × Mm) ⊕ (Int32 × Mm))} (h : f_X10_plan_J87 a0 l1 l2 l3 μ = some x) : mm_P ((sm (fun (q : Int32 × Int32 × Int32 × Mm) => q.2.2.2) (fun (q : Int32 × Mm) => q.2)) x) = mm_P μ := by
  have hk : mm_P μ = mm_P μ := rfl
  obtain ⟨v87, e87, h⟩ := bd h
  have h := Option.some.inj h
  subst h
  exact hk
theorem p_X10_plan_J82 {a0 : Nat} {l3 : Int32} {l4 : Int32} {μ : Mm} {x : ((Int32 × Int32 × Int32 × Mm) ⊕ (Int32 × Mm))} (h : f_X10_plan_J82 a0 l3 l4 μ = some x) : mm_P ((sm (fun (q : Int32 × Int32 × Int32 × Mm) => q.2.2.2) (fun (q : Int32 × Mm) => q.2)) x) = mm_P μ := by
  have hk : mm_P μ = mm_P μ := rfl
  exact (p_X10_plan_J87 h).trans hk
theorem p_X10_plan_J63 {a0 : Nat} {l1 : Int32} {l2 : Int32} {l3 : Int32} {l4 : Int32} {k0 : Int32} {μ : Mm} {x : ((Int32 × Int32 × Int32 × Mm) ⊕ (Int32 × Mm))} (h : f_X10_plan_J63 a0 l1 l2 l3 l4 k0 μ = some x) : mm_P ((sm (fun (q : Int32 × Int32 × Int32 × Mm) => q.2.2.2) (fun (q : Int32 × Mm) => q.2)) x) = mm_P μ := by
  have hk : mm_P μ = mm_P μ := rfl
  rcases ite_e h with ⟨_, h⟩ | ⟨_, h⟩
  · exact (p_X10_plan_J82 h).trans hk
  · rcases ite_e h with ⟨_, h⟩ | ⟨_, h⟩
    · rcases ite_e h with ⟨_, h⟩ | ⟨_, h⟩
      · exact (p_X10_plan_J87 h).trans hk
      · exact (p_X10_plan_J82 h).trans hk
    · exact (p_X10_plan_J87 h).trans hk
theorem p_X10_plan_L24 {a0 : Nat} {s24 : Int32 × Int32 × Int32 × Mm} {x : ((Int32 × Int32 × Int32 × Mm) ⊕ (Int32 × Mm))} (h : f_X10_plan_L24 a0 s24 = some x) : mm_P (sm (fun (q : Int32 × Int32 × Int32 × Mm) => q.2.2.2) (fun (q : Int32 × Mm) => q.2) x) = mm_P ((fun (q : Int32 × Int32 × Int32 × Mm) => q.2.2.2) s24) := by
  have hk : mm_P (s24.2.2.2) = mm_P (s24.2.2.2) := rfl
  obtain ⟨x27, e27, h⟩ := bd h
  obtain ⟨x30, e30, h⟩ := bd h
  rcases ite_e h with ⟨_, h⟩ | ⟨_, h⟩
  · have h := Option.some.inj h
    subst h
    exact hk
  · obtain ⟨x39, e39, h⟩ := bd h
    have hk := (p_X10_wishesMet e39).trans hk
    obtain ⟨x42, e42, h⟩ := bd h
    obtain ⟨x48, e48, h⟩ := bd h
    obtain ⟨x52, e52, h⟩ := bd h
    rcases ite_e h with ⟨_, h⟩ | ⟨_, h⟩
    · exact (p_X10_plan_J63 h).trans hk
    · exact (p_X10_plan_J63 h).trans hk
theorem p_X10_plan_W24 {a0 : Nat} {s24 : Int32 × Int32 × Int32 × Mm} {b : Int32 × Mm} (h : whl (f_X10_plan_L24 a0) s24 = some b) : mm_P ((fun (q : Int32 × Mm) => q.2) b) = mm_P ((fun (q : Int32 × Int32 × Int32 × Mm) => q.2.2.2) s24) :=
  whl_P (g := (fun (q : Int32 × Int32 × Int32 × Mm) => q.2.2.2)) (gb := (fun (q : Int32 × Mm) => q.2)) (fun s x hx => p_X10_plan_L24 hx) h
theorem p_X10_plan {a0 : Nat} {μ : Mm} {x : (Int32 × Mm)} (h : f_X10_plan a0 μ = some x) : mm_P ((fun (q : (Int32 × Mm)) => q.2) x) = mm_P μ := by
  have hk : mm_P μ = mm_P μ := rfl
  obtain ⟨_, h⟩ := ite_p h
  obtain ⟨x1, e1, h⟩ := bd h
  obtain ⟨x5, e5, h⟩ := bd h
  obtain ⟨x8, e8, h⟩ := bd h
  have hk := (p_X4_setTurning e8).trans hk
  obtain ⟨x15, e15, h⟩ := bd h
  have hk := (p_X10_wishesMet e15).trans hk
  obtain ⟨x18, e18, h⟩ := bd h
  obtain ⟨b24, w24, h⟩ := bd h
  have hk := (p_X10_plan_W24 w24).trans hk
  have h := Option.some.inj h
  subst h
  exact hk
theorem p_X0_addRight {a0 : Nat} {l1 : Int32} {l2 : Int32} {l3 : Int32} {μ : Mm} {x : (Int32 × Mm)} (h : f_X0_addRight a0 l1 l2 l3 μ = some x) : mm_P ((fun (q : (Int32 × Mm)) => q.2) x) = mm_P μ := by
  have hk : mm_P μ = mm_P μ := rfl
  obtain ⟨_, h⟩ := ite_p h
  obtain ⟨x1, e1, h⟩ := bd h
  rcases ite_e h with ⟨_, h⟩ | ⟨_, h⟩
  · have h := Option.some.inj h
    subst h
    exact hk
  · obtain ⟨μ12, e12, h⟩ := bd h
    have hk := (kp_pfI e12).trans hk
    obtain ⟨x16, e16, h⟩ := bd h
    obtain ⟨x20, e20, h⟩ := bd h
    obtain ⟨μ24, e24, h⟩ := bd h
    have hk := (kp_paI e24).trans hk
    obtain ⟨x26, e26, h⟩ := bd h
    obtain ⟨x30, e30, h⟩ := bd h
    obtain ⟨μ34, e34, h⟩ := bd h
    have hk := (kp_paI e34).trans hk
    obtain ⟨x36, e36, h⟩ := bd h
    obtain ⟨x40, e40, h⟩ := bd h
    obtain ⟨μ44, e44, h⟩ := bd h
    have hk := (kp_paI e44).trans hk
    obtain ⟨x47, e47, h⟩ := bd h
    obtain ⟨μ52, e52, h⟩ := bd h
    have hk := (kp_pfI e52).trans hk
    obtain ⟨b61, w61, h⟩ := bd h
    have h := Option.some.inj h
    subst h
    exact hk
theorem p_X10_right {a0 : Nat} {l1 : Int32} {l2 : Int32} {l3 : Int32} {μ : Mm} {x : (Int32 × Mm)} (h : f_X10_right a0 l1 l2 l3 μ = some x) : mm_P ((fun (q : (Int32 × Mm)) => q.2) x) = mm_P μ := by
  have hk : mm_P μ = mm_P μ := rfl
  obtain ⟨_, h⟩ := ite_p h
  obtain ⟨x1, e1, h⟩ := bd h
  obtain ⟨x6, e6, h⟩ := bd h
  rcases ite_e h with ⟨_, h⟩ | ⟨_, h⟩
  · have h := Option.some.inj h
    subst h
    exact hk
  · rcases ite_e h with ⟨_, h⟩ | ⟨_, h⟩
    · have h := Option.some.inj h
      subst h
      exact hk
    · obtain ⟨x18, e18, h⟩ := bd h
      obtain ⟨x21, e21, h⟩ := bd h
      rcases ite_e h with ⟨_, h⟩ | ⟨_, h⟩
      · obtain ⟨x31, e31, h⟩ := bd h
        obtain ⟨x34, e34, h⟩ := bd h
        rcases ite_e h with ⟨_, h⟩ | ⟨_, h⟩
        · have h := Option.some.inj h
          subst h
          exact hk
        · obtain ⟨x44, e44, h⟩ := bd h
          obtain ⟨μ48, e48, h⟩ := bd h
          have hk := (kp_pfZ e48).trans hk
          obtain ⟨x52, e52, h⟩ := bd h
          obtain ⟨x58, e58, h⟩ := bd h
          have hk := (p_X0_addRight e58).trans hk
          have h := Option.some.inj h
          subst h
          exact hk
      · have h := Option.some.inj h
        subst h
        exact hk
theorem p_X10_ringsOnTape_J75 {a0 : Nat} {l1 : Int32} {l2 : Int32} {k0 : Int32} {μ : Mm} {x : ((Int32 × Int32 × Mm) ⊕ ((Int32 × Mm) ⊕ ((Mm) ⊕ (Mm))))} (h : f_X10_ringsOnTape_J75 a0 l1 l2 k0 μ = some x) : mm_P ((sm (fun (q : Int32 × Int32 × Mm) => q.2.2) (sm (fun (q : Int32 × Mm) => q.2) (sm (fun (q : Mm) => q) (fun (q : Mm) => q)))) x) = mm_P μ := by
  have hk : mm_P μ = mm_P μ := rfl
  rcases ite_e h with ⟨_, h⟩ | ⟨_, h⟩
  · have h := Option.some.inj h
    subst h
    exact hk
  · obtain ⟨x81, e81, h⟩ := bd h
    obtain ⟨x84, e84, h⟩ := bd h
    rcases ite_e h with ⟨_, h⟩ | ⟨_, h⟩
    · obtain ⟨x100, e100, h⟩ := bd h
      obtain ⟨x103, e103, h⟩ := bd h
      obtain ⟨v107, e107, h⟩ := bd h
      obtain ⟨x109, e109, h⟩ := bd h
      obtain ⟨x113, e113, h⟩ := bd h
      obtain ⟨x116, e116, h⟩ := bd h
      obtain ⟨x120, e120, h⟩ := bd h
      obtain ⟨μ123, e123, h⟩ := bd h
      have hk := (kp_paI e123).trans hk
      obtain ⟨v124, e124, h⟩ := bd h
      have h := Option.some.inj h
      subst h
      exact hk
    · have h := Option.some.inj h
      subst h
      exact hk
theorem p_X10_ringsOnTape_J74 {a0 : Nat} {l1 : Int32} {l2 : Int32} {μ : Mm} {x : ((Int32 × Int32 × Mm) ⊕ ((Int32 × Mm) ⊕ ((Mm) ⊕ (Mm))))} (h : f_X10_ringsOnTape_J74 a0 l1 l2 μ = some x) : mm_P ((sm (fun (q : Int32 × Int32 × Mm) => q.2.2) (sm (fun (q : Int32 × Mm) => q.2) (sm (fun (q : Mm) => q) (fun (q : Mm) => q)))) x) = mm_P μ := by
  have hk : mm_P μ = mm_P μ := rfl
  exact (p_X10_ringsOnTape_J75 h).trans hk
theorem p_X10_ringsOnTape_J42 {a0 : Nat} {l1 : Int32} {μ : Mm} {x : (Int64 × Mm)} (h : f_X10_ringsOnTape_J42 a0 l1 μ = some x) : mm_P ((fun (q : (Int64 × Mm)) => q.2) x) = mm_P μ := by
  have hk : mm_P μ = mm_P μ := rfl
  obtain ⟨x44, e44, h⟩ := bd h
  have h := Option.some.inj h
  subst h
  exact hk
theorem p_X10_ringsOnTape_L19 {a0 : Nat} {s19 : Int32 × Int32 × Mm} {x : ((Int32 × Int32 × Mm) ⊕ ((Int32 × Mm) ⊕ ((Mm) ⊕ (Mm))))} (h : f_X10_ringsOnTape_L19 a0 s19 = some x) : mm_P (sm (fun (q : Int32 × Int32 × Mm) => q.2.2) (sm (fun (q : Int32 × Mm) => q.2) (sm (fun (q : Mm) => q) (fun (q : Mm) => q))) x) = mm_P ((fun (q : Int32 × Int32 × Mm) => q.2.2) s19) := by
  have hk : mm_P (s19.2.2) = mm_P (s19.2.2) := rfl
  rcases ite_e h with ⟨_, h⟩ | ⟨_, h⟩
  · have h := Option.some.inj h
    subst h
    exact hk
  · obtain ⟨x26, e26, h⟩ := bd h
    obtain ⟨x29, e29, h⟩ := bd h
    have hk := (p_X6_advance e29).trans hk
    obtain ⟨x33, e33, h⟩ := bd h
    obtain ⟨x36, e36, h⟩ := bd h
    rcases ite_e h with ⟨_, h⟩ | ⟨_, h⟩
    · have h := Option.some.inj h
      subst h
      exact hk
    · obtain ⟨x49, e49, h⟩ := bd h
      obtain ⟨x52, e52, h⟩ := bd h
      rcases ite_e h with ⟨_, h⟩ | ⟨_, h⟩
      · obtain ⟨x60, e60, h⟩ := bd h
        obtain ⟨x63, e63, h⟩ := bd h
        rcases ite_e h with ⟨_, h⟩ | ⟨_, h⟩
        · exact (p_X10_ringsOnTape_J74 h).trans hk
        · exact (p_X10_ringsOnTape_J75 h).trans hk
      · exact (p_X10_ringsOnTape_J74 h).trans hk
theorem p_X10_ringsOnTape_W19 {a0 : Nat} {s19 : Int32 × Int32 × Mm} {b : (Int32 × Mm) ⊕ ((Mm) ⊕ (Mm))} (h : whl (f_X10_ringsOnTape_L19 a0) s19 = some b) : mm_P ((sm (fun (q : Int32 × Mm) => q.2) (sm (fun (q : Mm) => q) (fun (q : Mm) => q))) b) = mm_P ((fun (q : Int32 × Int32 × Mm) => q.2.2) s19) :=
  whl_P (g := (fun (q : Int32 × Int32 × Mm) => q.2.2)) (gb := (sm (fun (q : Int32 × Mm) => q.2) (sm (fun (q : Mm) => q) (fun (q : Mm) => q)))) (fun s x hx => p_X10_ringsOnTape_L19 hx) h
theorem p_X10_ringsOnTape {a0 : Nat} {μ : Mm} {x : (Int64 × Mm)} (h : f_X10_ringsOnTape a0 μ = some x) : mm_P ((fun (q : (Int64 × Mm)) => q.2) x) = mm_P μ := by
  have hk : mm_P μ = mm_P μ := rfl
  obtain ⟨_, h⟩ := ite_p h
  obtain ⟨x1, e1, h⟩ := bd h
  obtain ⟨x5, e5, h⟩ := bd h
  have hk := (p_J7_fill_53178 e5).trans hk
  obtain ⟨x9, e9, h⟩ := bd h
  obtain ⟨x12, e12, h⟩ := bd h
  have hk := (p_X6_rewind e12).trans hk
  obtain ⟨b19, w19, h⟩ := bd h
  have hk := (p_X10_ringsOnTape_W19 w19).trans hk
  rcases b19 with b19 | b19
  · exact (p_X10_ringsOnTape_J42 h).trans hk
  · rcases b19 with b19 | b19
    · have h := Option.some.inj h
      subst h
      exact hk
    · have h := Option.some.inj h
      subst h
      exact hk
theorem p_X10_rings {a0 : Nat} {μ : Mm} {x : (Int64 × Mm)} (h : f_X10_rings a0 μ = some x) : mm_P ((fun (q : (Int64 × Mm)) => q.2) x) = mm_P μ := by
  have hk : mm_P μ = mm_P μ := rfl
  obtain ⟨_, h⟩ := ite_p h
  obtain ⟨x1, e1, h⟩ := bd h
  have hk := (p_X10_ringsOnTape e1).trans hk
  obtain ⟨x6, e6, h⟩ := bd h
  obtain ⟨μ10, e10, h⟩ := bd h
  have hk := (kp_pfI e10).trans hk
  have h := Option.some.inj h
  subst h
  exact hk
theorem p_X10_said {a0 : Nat} {l1 : Int32} {l2 : Int32} {l3 : Int32} {μ : Mm} {x : (Int32 × Mm)} (h : f_X10_said a0 l1 l2 l3 μ = some x) : mm_P ((fun (q : (Int32 × Mm)) => q.2) x) = mm_P μ := by
  have hk : mm_P μ = mm_P μ := rfl
  obtain ⟨_, h⟩ := ite_p h
  obtain ⟨x1, e1, h⟩ := bd h
  obtain ⟨x5, e5, h⟩ := bd h
  rcases ite_e h with ⟨_, h⟩ | ⟨_, h⟩
  · have h := Option.some.inj h
    subst h
    exact hk
  · obtain ⟨x12, e12, h⟩ := bd h
    obtain ⟨x16, e16, h⟩ := bd h
    rcases ite_e h with ⟨_, h⟩ | ⟨_, h⟩
    · have h := Option.some.inj h
      subst h
      exact hk
    · obtain ⟨x23, e23, h⟩ := bd h
      rcases ite_e h with ⟨_, h⟩ | ⟨_, h⟩
      · have h := Option.some.inj h
        subst h
        exact hk
      · rcases ite_e h with ⟨_, h⟩ | ⟨_, h⟩
        · have h := Option.some.inj h
          subst h
          exact hk
        · obtain ⟨x46, e46, h⟩ := bd h
          have hk := (p_X10_sendSign e46).trans hk
          have h := Option.some.inj h
          subst h
          exact hk
theorem p_X10_practise_J164 {a0 : Nat} {l2 : Int32} {l3 : Int32} {k0 : Nat} {k1 : Int32} {k2 : Int32} {μ : Mm} {x : ((Int32 × Mm) ⊕ (Mm))} (h : f_X10_practise_J164 a0 l2 l3 k0 k1 k2 μ = some x) : mm_P ((sm (fun (q : Int32 × Mm) => q.2) (fun (q : Mm) => q)) x) = mm_P μ := by
  have hk : mm_P μ = mm_P μ := rfl
  obtain ⟨μ164, e164, h⟩ := bd h
  have hk := (kp_paI e164).trans hk
  obtain ⟨v165, e165, h⟩ := bd h
  have h := Option.some.inj h
  subst h
  exact hk
theorem p_X10_practise_J134 {a0 : Nat} {l2 : Int32} {l3 : Int32} {l4 : Int32} {k0 : Int32} {μ : Mm} {x : ((Int32 × Mm) ⊕ (Mm))} (h : f_X10_practise_J134 a0 l2 l3 l4 k0 μ = some x) : mm_P ((sm (fun (q : Int32 × Mm) => q.2) (fun (q : Mm) => q)) x) = mm_P μ := by
  have hk : mm_P μ = mm_P μ := rfl
  obtain ⟨x137, e137, h⟩ := bd h
  rcases ite_e h with ⟨_, h⟩ | ⟨_, h⟩
  · exact (p_X10_practise_J164 h).trans hk
  · exact (p_X10_practise_J164 h).trans hk
theorem p_X10_practise_J113 {a0 : Nat} {l2 : Int32} {l3 : Int32} {l4 : Int32} {l5 : Int32} {k0 : Int32} {μ : Mm} {x : ((Int32 × Mm) ⊕ (Mm))} (h : f_X10_practise_J113 a0 l2 l3 l4 l5 k0 μ = some x) : mm_P ((sm (fun (q : Int32 × Mm) => q.2) (fun (q : Mm) => q)) x) = mm_P μ := by
  have hk : mm_P μ = mm_P μ := rfl
  rcases ite_e h with ⟨_, h⟩ | ⟨_, h⟩
  · exact (p_X10_practise_J134 h).trans hk
  · obtain ⟨x121, e121, h⟩ := bd h
    obtain ⟨x126, e126, h⟩ := bd h
    exact (p_X10_practise_J134 h).trans hk
theorem p_X10_practise_J112 {a0 : Nat} {l2 : Int32} {l3 : Int32} {l4 : Int32} {l5 : Int32} {μ : Mm} {x : ((Int32 × Mm) ⊕ (Mm))} (h : f_X10_practise_J112 a0 l2 l3 l4 l5 μ = some x) : mm_P ((sm (fun (q : Int32 × Mm) => q.2) (fun (q : Mm) => q)) x) = mm_P μ := by
  have hk : mm_P μ = mm_P μ := rfl
  exact (p_X10_practise_J113 h).trans hk
theorem p_X10_practise_L58 {a0 : Nat} {l2 : Int32} {s58 : Int32 × Mm} {x : ((Int32 × Mm) ⊕ (Mm))} (h : f_X10_practise_L58 a0 l2 s58 = some x) : mm_P (sm (fun (q : Int32 × Mm) => q.2) (fun (q : Mm) => q) x) = mm_P ((fun (q : Int32 × Mm) => q.2) s58) := by
  have hk : mm_P (s58.2) = mm_P (s58.2) := rfl
  obtain ⟨x60, e60, h⟩ := bd h
  obtain ⟨x63, e63, h⟩ := bd h
  rcases ite_e h with ⟨_, h⟩ | ⟨_, h⟩
  · have h := Option.some.inj h
    subst h
    exact hk
  · obtain ⟨x70, e70, h⟩ := bd h
    obtain ⟨x74, e74, h⟩ := bd h
    obtain ⟨x78, e78, h⟩ := bd h
    obtain ⟨x82, e82, h⟩ := bd h
    obtain ⟨x88, e88, h⟩ := bd h
    obtain ⟨x93, e93, h⟩ := bd h
    rcases ite_e h with ⟨_, h⟩ | ⟨_, h⟩
    · exact (p_X10_practise_J112 h).trans hk
    · rcases ite_e h with ⟨_, h⟩ | ⟨_, h⟩
      · exact (p_X10_practise_J113 h).trans hk
      · exact (p_X10_practise_J112 h).trans hk
theorem p_X10_practise_W58 {a0 : Nat} {l2 : Int32} {s58 : Int32 × Mm} {b : Mm} (h : whl (f_X10_practise_L58 a0 l2) s58 = some b) : mm_P ((fun (q : Mm) => q) b) = mm_P ((fun (q : Int32 × Mm) => q.2) s58) :=
  whl_P (g := (fun (q : Int32 × Mm) => q.2)) (gb := (fun (q : Mm) => q)) (fun s x hx => p_X10_practise_L58 hx) h
theorem p_X10_practise_J56 {a0 : Nat} {l2 : Int32} {μ : Mm} {x : Mm} (h : f_X10_practise_J56 a0 l2 μ = some x) : mm_P ((fun (q : Mm) => q) x) = mm_P μ := by
  have hk : mm_P μ = mm_P μ := rfl
  obtain ⟨b58, w58, h⟩ := bd h
  have hk := (p_X10_practise_W58 w58).trans hk
  have h := Option.some.inj h
  subst h
  exact hk
theorem p_X10_practise_L11 {a0 : Nat} {l2 : Int32} {s11 : Int32 × Mm} {x : ((Int32 × Mm) ⊕ (Mm))} (h : f_X10_practise_L11 a0 l2 s11 = some x) : mm_P (sm (fun (q : Int32 × Mm) => q.2) (fun (q : Mm) => q) x) = mm_P ((fun (q : Int32 × Mm) => q.2) s11) := by
  have hk : mm_P (s11.2) = mm_P (s11.2) := rfl
  obtain ⟨x13, e13, h⟩ := bd h
  obtain ⟨x16, e16, h⟩ := bd h
  rcases ite_e h with ⟨_, h⟩ | ⟨_, h⟩
  · have h := Option.some.inj h
    subst h
    exact hk
  · obtain ⟨x23, e23, h⟩ := bd h
    obtain ⟨x31, e31, h⟩ := bd h
    obtain ⟨x35, e35, h⟩ := bd h
    obtain ⟨x37, e37, h⟩ := bd h
    obtain ⟨x40, e40, h⟩ := bd h
    obtain ⟨x44, e44, h⟩ := bd h
    obtain ⟨μ49, e49, h⟩ := bd h
    have hk := (kp_paI e49).trans hk
    obtain ⟨v50, e50, h⟩ := bd h
    have h := Option.some.inj h
    subst h
    exact hk
theorem p_X10_practise_W11 {a0 : Nat} {l2 : Int32} {s11 : Int32 × Mm} {b : Mm} (h : whl (f_X10_practise_L11 a0 l2) s11 = some b) : mm_P ((fun (q : Mm) => q) b) = mm_P ((fun (q : Int32 × Mm) => q.2) s11) :=
  whl_P (g := (fun (q : Int32 × Mm) => q.2)) (gb := (fun (q : Mm) => q)) (fun s x hx => p_X10_practise_L11 hx) h
theorem p_X10_practise {a0 : Nat} {l1 : Int32} {μ : Mm} {x : Mm} (h : f_X10_practise a0 l1 μ = some x) : mm_P ((fun (q : Mm) => q) x) = mm_P μ := by
  have hk : mm_P μ = mm_P μ := rfl
  obtain ⟨_, h⟩ := ite_p h
  obtain ⟨x1, e1, h⟩ := bd h
  obtain ⟨x5, e5, h⟩ := bd h
  obtain ⟨b11, w11, h⟩ := bd h
  have hk := (p_X10_practise_W11 w11).trans hk
  exact (p_X10_practise_J56 h).trans hk
theorem p_X10_skill_J53 {a0 : Nat} {l1 : Int32} {μ : Mm} {x : (Int32 × Mm)} (h : f_X10_skill_J53 a0 l1 μ = some x) : mm_P ((fun (q : (Int32 × Mm)) => q.2) x) = mm_P μ := by
  have hk : mm_P μ = mm_P μ := rfl
  obtain ⟨x54, e54, h⟩ := bd h
  obtain ⟨x58, e58, h⟩ := bd h
  have h := Option.some.inj h
  subst h
  exact hk
theorem p_X10_skill_L31 {a0 : Nat} {l1 : Int32} {l2 : Int32} {s31 : Int32 × Mm} {x : ((Int32 × Mm) ⊕ (Mm))} (h : f_X10_skill_L31 a0 l1 l2 s31 = some x) : mm_P (sm (fun (q : Int32 × Mm) => q.2) (fun (q : Mm) => q) x) = mm_P ((fun (q : Int32 × Mm) => q.2) s31) := by
  have hk : mm_P (s31.2) = mm_P (s31.2) := rfl
  rcases ite_e h with ⟨_, h⟩ | ⟨_, h⟩
  · have h := Option.some.inj h
    subst h
    exact hk
  · rcases ite_e h with ⟨_, h⟩ | ⟨_, h⟩
    · have h := Option.some.inj h
      subst h
      exact hk
    · obtain ⟨x44, e44, h⟩ := bd h
      have hk := (p_X10_practise e44).trans hk
      obtain ⟨v47, e47, h⟩ := bd h
      have h := Option.some.inj h
      subst h
      exact hk
theorem p_X10_skill_W31 {a0 : Nat} {l1 : Int32} {l2 : Int32} {s31 : Int32 × Mm} {b : Mm} (h : whl (f_X10_skill_L31 a0 l1 l2) s31 = some b) : mm_P ((fun (q : Mm) => q) b) = mm_P ((fun (q : Int32 × Mm) => q.2) s31) :=
  whl_P (g := (fun (q : Int32 × Mm) => q.2)) (gb := (fun (q : Mm) => q)) (fun s x hx => p_X10_skill_L31 hx) h
theorem p_X10_skill {a0 : Nat} {l1 : Int32} {l2 : Int32} {μ : Mm} {x : (Int32 × Mm)} (h : f_X10_skill a0 l1 l2 μ = some x) : mm_P ((fun (q : (Int32 × Mm)) => q.2) x) = mm_P μ := by
  have hk : mm_P μ = mm_P μ := rfl
  obtain ⟨_, h⟩ := ite_p h
  obtain ⟨x1, e1, h⟩ := bd h
  obtain ⟨x5, e5, h⟩ := bd h
  rcases ite_e h with ⟨_, h⟩ | ⟨_, h⟩
  · have h := Option.some.inj h
    subst h
    exact hk
  · obtain ⟨x12, e12, h⟩ := bd h
    rcases ite_e h with ⟨_, h⟩ | ⟨_, h⟩
    · have h := Option.some.inj h
      subst h
      exact hk
    · obtain ⟨x22, e22, h⟩ := bd h
      obtain ⟨x26, e26, h⟩ := bd h
      have hk := (p_J7_fill_53178 e26).trans hk
      obtain ⟨b31, w31, h⟩ := bd h
      have hk := (p_X10_skill_W31 w31).trans hk
      exact (p_X10_skill_J53 h).trans hk
theorem p_X10_take {a0 : Nat} {l1 : Int32} {μ : Mm} {x : (Int32 × Mm)} (h : f_X10_take a0 l1 μ = some x) : mm_P ((fun (q : (Int32 × Mm)) => q.2) x) = mm_P μ := by
  have hk : mm_P μ = mm_P μ := rfl
  obtain ⟨_, h⟩ := ite_p h
  rcases ite_e h with ⟨_, h⟩ | ⟨_, h⟩
  · have h := Option.some.inj h
    subst h
    exact hk
  · obtain ⟨x6, e6, h⟩ := bd h
    obtain ⟨x9, e9, h⟩ := bd h
    rcases ite_e h with ⟨_, h⟩ | ⟨_, h⟩
    · obtain ⟨x17, e17, h⟩ := bd h
      obtain ⟨x21, e21, h⟩ := bd h
      obtain ⟨x22, e22, h⟩ := bd h
      rcases ite_e h with ⟨_, h⟩ | ⟨_, h⟩
      · have h := Option.some.inj h
        subst h
        exact hk
      · obtain ⟨x32, e32, h⟩ := bd h
        obtain ⟨x36, e36, h⟩ := bd h
        obtain ⟨x40, e40, h⟩ := bd h
        obtain ⟨x41, e41, h⟩ := bd h
        have hk := (p_X3_copyFrom e41).trans hk
        obtain ⟨x45, e45, h⟩ := bd h
        obtain ⟨x48, e48, h⟩ := bd h
        have h := Option.some.inj h
        subst h
        exact hk
    · have h := Option.some.inj h
      subst h
      exact hk
theorem p_X8_fail {a0 : Nat} {l1 : Int32} {μ : Mm} {x : (Int32 × Mm)} (h : f_X8_fail a0 l1 μ = some x) : mm_P ((fun (q : (Int32 × Mm)) => q.2) x) = mm_P μ := by
  have hk : mm_P μ = mm_P μ := rfl
  obtain ⟨_, h⟩ := ite_p h
  obtain ⟨μ2, e2, h⟩ := bd h
  have hk := (kp_pfI e2).trans hk
  obtain ⟨x7, e7, h⟩ := bd h
  obtain ⟨x10, e10, h⟩ := bd h
  obtain ⟨μ13, e13, h⟩ := bd h
  have hk := (kp_pfI e13).trans hk
  have h := Option.some.inj h
  subst h
  exact hk
theorem p_X8_readMark_J26  {μ : Mm} {x : (Int32 × Mm)} (h : f_X8_readMark_J26  μ = some x) : mm_P ((fun (q : (Int32 × Mm)) => q.2) x) = mm_P μ := by
  have hk : mm_P μ = mm_P μ := rfl
  have h := Option.some.inj h
  subst h
  exact hk
theorem p_X8_readMark {a0 : Nat} {μ : Mm} {x : (Int32 × Mm)} (h : f_X8_readMark a0 μ = some x) : mm_P ((fun (q : (Int32 × Mm)) => q.2) x) = mm_P μ := by
  have hk : mm_P μ = mm_P μ := rfl
  obtain ⟨_, h⟩ := ite_p h
  obtain ⟨x1, e1, h⟩ := bd h
  obtain ⟨x4, e4, h⟩ := bd h
  have hk := (p_X6_advance e4).trans hk
  obtain ⟨x8, e8, h⟩ := bd h
  obtain ⟨x11, e11, h⟩ := bd h
  rcases ite_e h with ⟨_, h⟩ | ⟨_, h⟩
  · exact (p_X8_readMark_J26 h).trans hk
  · obtain ⟨x20, e20, h⟩ := bd h
    have hk := (p_X8_fail e20).trans hk
    rcases ite_e h with ⟨_, h⟩ | ⟨_, h⟩
    · have h := Option.some.inj h
      subst h
      exact hk
    · exact (p_X8_readMark_J26 h).trans hk
theorem p_X8_readNamed {a0 : Nat} {μ : Mm} {x : (Int32 × Mm)} (h : f_X8_readNamed a0 μ = some x) : mm_P ((fun (q : (Int32 × Mm)) => q.2) x) = mm_P μ := by
  have hk : mm_P μ = mm_P μ := rfl
  obtain ⟨_, h⟩ := ite_p h
  obtain ⟨x1, e1, h⟩ := bd h
  obtain ⟨x4, e4, h⟩ := bd h
  have hk := (p_X6_advance e4).trans hk
  obtain ⟨x8, e8, h⟩ := bd h
  obtain ⟨x11, e11, h⟩ := bd h
  rcases ite_e h with ⟨_, h⟩ | ⟨_, h⟩
  · obtain ⟨x27, e27, h⟩ := bd h
    obtain ⟨x31, e31, h⟩ := bd h
    obtain ⟨x34, e34, h⟩ := bd h
    obtain ⟨x37, e37, h⟩ := bd h
    rcases ite_e h with ⟨_, h⟩ | ⟨_, h⟩
    · obtain ⟨x48, e48, h⟩ := bd h
      have hk := (p_X8_fail e48).trans hk
      have h := Option.some.inj h
      subst h
      exact hk
    · have h := Option.some.inj h
      subst h
      exact hk
  · obtain ⟨x20, e20, h⟩ := bd h
    have hk := (p_X8_fail e20).trans hk
    have h := Option.some.inj h
    subst h
    exact hk
theorem p_X8_readDreams_J108 {a0 : Nat} {μ : Mm} {x : (Int32 × Mm)} (h : f_X8_readDreams_J108 a0 μ = some x) : mm_P ((fun (q : (Int32 × Mm)) => q.2) x) = mm_P μ := by
  have hk : mm_P μ = mm_P μ := rfl
  obtain ⟨x110, e110, h⟩ := bd h
  have hk := (p_X8_fail e110).trans hk
  obtain ⟨_, h⟩ := ite_p h
  have h := Option.some.inj h
  subst h
  exact hk
theorem p_X8_readDreams {a0 : Nat} {μ : Mm} {x : (Int32 × Mm)} (h : f_X8_readDreams a0 μ = some x) : mm_P ((fun (q : (Int32 × Mm)) => q.2) x) = mm_P μ := by
  have hk : mm_P μ = mm_P μ := rfl
  obtain ⟨_, h⟩ := ite_p h
  obtain ⟨x1, e1, h⟩ := bd h
  have hk := (p_X8_readNamed e1).trans hk
  obtain ⟨x6, e6, h⟩ := bd h
  obtain ⟨x10, e10, h⟩ := bd h
  rcases ite_e h with ⟨_, h⟩ | ⟨_, h⟩
  · have h := Option.some.inj h
    subst h
    exact hk
  · obtain ⟨x19, e19, h⟩ := bd h
    obtain ⟨x23, e23, h⟩ := bd h
    rcases ite_e h with ⟨_, h⟩ | ⟨_, h⟩
    · obtain ⟨x36, e36, h⟩ := bd h
      obtain ⟨x39, e39, h⟩ := bd h
      obtain ⟨x43, e43, h⟩ := bd h
      rcases ite_e h with ⟨_, h⟩ | ⟨_, h⟩
      · obtain ⟨x55, e55, h⟩ := bd h
        have hk := (p_X8_readNamed e55).trans hk
        obtain ⟨x60, e60, h⟩ := bd h
        obtain ⟨x64, e64, h⟩ := bd h
        rcases ite_e h with ⟨_, h⟩ | ⟨_, h⟩
        · have h := Option.some.inj h
          subst h
          exact hk
        · obtain ⟨x73, e73, h⟩ := bd h
          obtain ⟨x77, e77, h⟩ := bd h
          rcases ite_e h with ⟨_, h⟩ | ⟨_, h⟩
          · rcases ite_e h with ⟨_, h⟩ | ⟨_, h⟩
            · exact (p_X8_readDreams_J108 h).trans hk
            · obtain ⟨x95, e95, h⟩ := bd h
              obtain ⟨x98, e98, h⟩ := bd h
              rcases ite_e h with ⟨_, h⟩ | ⟨_, h⟩
              · obtain ⟨x115, e115, h⟩ := bd h
                obtain ⟨x118, e118, h⟩ := bd h
                obtain ⟨μ123, e123, h⟩ := bd h
                have hk := (kp_paI e123).trans hk
                obtain ⟨x125, e125, h⟩ := bd h
                obtain ⟨x129, e129, h⟩ := bd h
                obtain ⟨μ136, e136, h⟩ := bd h
                have hk := (kp_pfI e136).trans hk
                obtain ⟨x140, e140, h⟩ := bd h
                have hk := (p_X8_readMark e140).trans hk
                obtain ⟨_, h⟩ := ite_p h
                have h := Option.some.inj h
                subst h
                exact hk
              · exact (p_X8_readDreams_J108 h).trans hk
          · obtain ⟨x85, e85, h⟩ := bd h
            have hk := (p_X8_fail e85).trans hk
            obtain ⟨_, h⟩ := ite_p h
            have h := Option.some.inj h
            subst h
            exact hk
      · obtain ⟨x50, e50, h⟩ := bd h
        have hk := (p_X8_fail e50).trans hk
        obtain ⟨_, h⟩ := ite_p h
        have h := Option.some.inj h
        subst h
        exact hk
    · obtain ⟨x31, e31, h⟩ := bd h
      have hk := (p_X8_fail e31).trans hk
      obtain ⟨_, h⟩ := ite_p h
      have h := Option.some.inj h
      subst h
      exact hk
theorem p_X2_add {a0 : Nat} {l1 : Int32} {l2 : Int32} {l3 : Int32} {l4 : Int32} {μ : Mm} {x : Mm} (h : f_X2_add a0 l1 l2 l3 l4 μ = some x) : mm_P ((fun (q : Mm) => q) x) = mm_P μ := by
  have hk : mm_P μ = mm_P μ := rfl
  obtain ⟨_, h⟩ := ite_p h
  obtain ⟨x1, e1, h⟩ := bd h
  rcases ite_e h with ⟨_, h⟩ | ⟨_, h⟩
  · obtain ⟨x9, e9, h⟩ := bd h
    obtain ⟨v14, e14, h⟩ := bd h
    obtain ⟨x17, e17, h⟩ := bd h
    obtain ⟨μ23, e23, h⟩ := bd h
    have hk := (kp_paI e23).trans hk
    obtain ⟨x25, e25, h⟩ := bd h
    obtain ⟨μ33, e33, h⟩ := bd h
    have hk := (kp_paI e33).trans hk
    obtain ⟨x35, e35, h⟩ := bd h
    obtain ⟨μ43, e43, h⟩ := bd h
    have hk := (kp_paI e43).trans hk
    obtain ⟨x45, e45, h⟩ := bd h
    obtain ⟨μ54, e54, h⟩ := bd h
    have hk := (kp_paI e54).trans hk
    obtain ⟨x57, e57, h⟩ := bd h
    obtain ⟨μ62, e62, h⟩ := bd h
    have hk := (kp_pfI e62).trans hk
    have h := Option.some.inj h
    subst h
    exact hk
  · have h := Option.some.inj h
    subst h
    exact hk
theorem p_X8_readBetween_J48 {a0 : Nat} {μ : Mm} {x : (Int32 × Mm)} (h : f_X8_readBetween_J48 a0 μ = some x) : mm_P ((fun (q : (Int32 × Mm)) => q.2) x) = mm_P μ := by
  have hk : mm_P μ = mm_P μ := rfl
  obtain ⟨x50, e50, h⟩ := bd h
  have hk := (p_X8_fail e50).trans hk
  have h := Option.some.inj h
  subst h
  exact hk
theorem p_X8_readBetween {a0 : Nat} {l1 : Int32} {l2 : Int32} {μ : Mm} {x : (Int32 × Mm)} (h : f_X8_readBetween a0 l1 l2 μ = some x) : mm_P ((fun (q : (Int32 × Mm)) => q.2) x) = mm_P μ := by
  have hk : mm_P μ = mm_P μ := rfl
  obtain ⟨_, h⟩ := ite_p h
  obtain ⟨x1, e1, h⟩ := bd h
  obtain ⟨x4, e4, h⟩ := bd h
  have hk := (p_X6_advance e4).trans hk
  obtain ⟨x8, e8, h⟩ := bd h
  obtain ⟨x11, e11, h⟩ := bd h
  rcases ite_e h with ⟨_, h⟩ | ⟨_, h⟩
  · obtain ⟨x27, e27, h⟩ := bd h
    obtain ⟨x30, e30, h⟩ := bd h
    rcases ite_e h with ⟨_, h⟩ | ⟨_, h⟩
    · exact (p_X8_readBetween_J48 h).trans hk
    · obtain ⟨x38, e38, h⟩ := bd h
      obtain ⟨x41, e41, h⟩ := bd h
      rcases ite_e h with ⟨_, h⟩ | ⟨_, h⟩
      · obtain ⟨x57, e57, h⟩ := bd h
        obtain ⟨x60, e60, h⟩ := bd h
        have h := Option.some.inj h
        subst h
        exact hk
      · exact (p_X8_readBetween_J48 h).trans hk
  · obtain ⟨x20, e20, h⟩ := bd h
    have hk := (p_X8_fail e20).trans hk
    have h := Option.some.inj h
    subst h
    exact hk
theorem p_X8_readDull {a0 : Nat} {μ : Mm} {x : (Int32 × Mm)} (h : f_X8_readDull a0 μ = some x) : mm_P ((fun (q : (Int32 × Mm)) => q.2) x) = mm_P μ := by
  have hk : mm_P μ = mm_P μ := rfl
  obtain ⟨_, h⟩ := ite_p h
  obtain ⟨x1, e1, h⟩ := bd h
  have hk := (p_X8_readNamed e1).trans hk
  rcases ite_e h with ⟨_, h⟩ | ⟨_, h⟩
  · have h := Option.some.inj h
    subst h
    exact hk
  · obtain ⟨x16, e16, h⟩ := bd h
    have hk := (p_X8_readBetween e16).trans hk
    rcases ite_e h with ⟨_, h⟩ | ⟨_, h⟩
    · have h := Option.some.inj h
      subst h
      exact hk
    · obtain ⟨x31, e31, h⟩ := bd h
      have hk := (p_X8_readBetween e31).trans hk
      rcases ite_e h with ⟨_, h⟩ | ⟨_, h⟩
      · have h := Option.some.inj h
        subst h
        exact hk
      · obtain ⟨x43, e43, h⟩ := bd h
        obtain ⟨x46, e46, h⟩ := bd h
        obtain ⟨x53, e53, h⟩ := bd h
        have hk := (p_X2_add e53).trans hk
        obtain ⟨x57, e57, h⟩ := bd h
        have hk := (p_X8_readMark e57).trans hk
        obtain ⟨_, h⟩ := ite_p h
        have h := Option.some.inj h
        subst h
        exact hk
theorem p_X7_addPerson {a0 : Nat} {l1 : Int64} {μ : Mm} {x : Mm} (h : f_X7_addPerson a0 l1 μ = some x) : mm_P ((fun (q : Mm) => q) x) = mm_P μ := by
  have hk : mm_P μ = mm_P μ := rfl
  obtain ⟨_, h⟩ := ite_p h
  obtain ⟨x1, e1, h⟩ := bd h
  rcases ite_e h with ⟨_, h⟩ | ⟨_, h⟩
  · have h := Option.some.inj h
    subst h
    exact hk
  · obtain ⟨x10, e10, h⟩ := bd h
    obtain ⟨x14, e14, h⟩ := bd h
    obtain ⟨μ18, e18, h⟩ := bd h
    have hk := (kp_paL e18).trans hk
    obtain ⟨x21, e21, h⟩ := bd h
    obtain ⟨μ26, e26, h⟩ := bd h
    have hk := (kp_pfI e26).trans hk
    have h := Option.some.inj h
    subst h
    exact hk
theorem p_X8_readPerson_J128  {μ : Mm} {x : (Int32 × Mm)} (h : f_X8_readPerson_J128  μ = some x) : mm_P ((fun (q : (Int32 × Mm)) => q.2) x) = mm_P μ := by
  have hk : mm_P μ = mm_P μ := rfl
  have h := Option.some.inj h
  subst h
  exact hk
theorem p_X8_readPerson {a0 : Nat} {μ : Mm} {x : (Int32 × Mm)} (h : f_X8_readPerson a0 μ = some x) : mm_P ((fun (q : (Int32 × Mm)) => q.2) x) = mm_P μ := by
  have hk : mm_P μ = mm_P μ := rfl
  obtain ⟨_, h⟩ := ite_p h
  obtain ⟨x1, e1, h⟩ := bd h
  obtain ⟨x4, e4, h⟩ := bd h
  have hk := (p_X6_advance e4).trans hk
  obtain ⟨x8, e8, h⟩ := bd h
  obtain ⟨x11, e11, h⟩ := bd h
  rcases ite_e h with ⟨_, h⟩ | ⟨_, h⟩
  · obtain ⟨x25, e25, h⟩ := bd h
    obtain ⟨x29, e29, h⟩ := bd h
    obtain ⟨x32, e32, h⟩ := bd h
    obtain ⟨x35, e35, h⟩ := bd h
    rcases ite_e h with ⟨_, h⟩ | ⟨_, h⟩
    · obtain ⟨x49, e49, h⟩ := bd h
      obtain ⟨x53, e53, h⟩ := bd h
      obtain ⟨x56, e56, h⟩ := bd h
      obtain ⟨x59, e59, h⟩ := bd h
      have hk := (p_X7_addPerson e59).trans hk
      obtain ⟨x63, e63, h⟩ := bd h
      obtain ⟨x66, e66, h⟩ := bd h
      have hk := (p_X6_advance e66).trans hk
      obtain ⟨x70, e70, h⟩ := bd h
      obtain ⟨x75, e75, h⟩ := bd h
      rcases ite_e h with ⟨_, h⟩ | ⟨_, h⟩
      · obtain ⟨x110, e110, h⟩ := bd h
        obtain ⟨x113, e113, h⟩ := bd h
        rcases ite_e h with ⟨_, h⟩ | ⟨_, h⟩
        · exact (p_X8_readPerson_J128 h).trans hk
        · obtain ⟨x122, e122, h⟩ := bd h
          have hk := (p_X8_fail e122).trans hk
          rcases ite_e h with ⟨_, h⟩ | ⟨_, h⟩
          · have h := Option.some.inj h
            subst h
            exact hk
          · exact (p_X8_readPerson_J128 h).trans hk
      · obtain ⟨x82, e82, h⟩ := bd h
        obtain ⟨x86, e86, h⟩ := bd h
        obtain ⟨x91, e91, h⟩ := bd h
        obtain ⟨x94, e94, h⟩ := bd h
        obtain ⟨μ101, e101, h⟩ := bd h
        have hk := (kp_pfI e101).trans hk
        obtain ⟨x105, e105, h⟩ := bd h
        have hk := (p_X8_readMark e105).trans hk
        obtain ⟨_, h⟩ := ite_p h
        have h := Option.some.inj h
        subst h
        exact hk
    · obtain ⟨x44, e44, h⟩ := bd h
      have hk := (p_X8_fail e44).trans hk
      obtain ⟨_, h⟩ := ite_p h
      have h := Option.some.inj h
      subst h
      exact hk
  · obtain ⟨x20, e20, h⟩ := bd h
    have hk := (p_X8_fail e20).trans hk
    obtain ⟨_, h⟩ := ite_p h
    have h := Option.some.inj h
    subst h
    exact hk
theorem p_X8_readPersonAndDay {a0 : Nat} {l1 : Nat} {μ : Mm} {x : (Int32 × Mm)} (h : f_X8_readPersonAndDay a0 l1 μ = some x) : mm_P ((fun (q : (Int32 × Mm)) => q.2) x) = mm_P μ := by
  have hk : mm_P μ = mm_P μ := rfl
  obtain ⟨_, h⟩ := ite_p h
  obtain ⟨x1, e1, h⟩ := bd h
  have hk := (p_X8_readNamed e1).trans hk
  rcases ite_e h with ⟨_, h⟩ | ⟨_, h⟩
  · have h := Option.some.inj h
    subst h
    exact hk
  · obtain ⟨x16, e16, h⟩ := bd h
    have hk := (p_X8_readBetween e16).trans hk
    rcases ite_e h with ⟨_, h⟩ | ⟨_, h⟩
    · have h := Option.some.inj h
      subst h
      exact hk
    · obtain ⟨x32, e32, h⟩ := bd h
      have hk := (p_X2_add e32).trans hk
      obtain ⟨x36, e36, h⟩ := bd h
      have hk := (p_X8_readMark e36).trans hk
      obtain ⟨_, h⟩ := ite_p h
      have h := Option.some.inj h
      subst h
      exact hk
theorem p_X8_readSetting_J82 {a0 : Nat} {μ : Mm} {x : (Int32 × Mm)} (h : f_X8_readSetting_J82 a0 μ = some x) : mm_P ((fun (q : (Int32 × Mm)) => q.2) x) = mm_P μ := by
  have hk : mm_P μ = mm_P μ := rfl
  obtain ⟨x83, e83, h⟩ := bd h
  have hk := (p_X8_readMark e83).trans hk
  obtain ⟨_, h⟩ := ite_p h
  have h := Option.some.inj h
  subst h
  exact hk
theorem p_X8_readSetting_J34 {a0 : Nat} {l1 : Int32} {l2 : Int32} {k0 : Int32} {μ : Mm} {x : (Int32 × Mm)} (h : f_X8_readSetting_J34 a0 l1 l2 k0 μ = some x) : mm_P ((fun (q : (Int32 × Mm)) => q.2) x) = mm_P μ := by
  have hk : mm_P μ = mm_P μ := rfl
  rcases ite_e h with ⟨_, h⟩ | ⟨_, h⟩
  · have h := Option.some.inj h
    subst h
    exact hk
  · rcases ite_e h with ⟨_, h⟩ | ⟨_, h⟩
    · rcases ite_e h with ⟨_, h⟩ | ⟨_, h⟩
      · obtain ⟨x64, e64, h⟩ := bd h
        obtain ⟨μ68, e68, h⟩ := bd h
        have hk := (kp_pfI e68).trans hk
        exact (p_X8_readSetting_J82 h).trans hk
      · obtain ⟨x75, e75, h⟩ := bd h
        obtain ⟨μ79, e79, h⟩ := bd h
        have hk := (kp_pfI e79).trans hk
        exact (p_X8_readSetting_J82 h).trans hk
    · obtain ⟨x47, e47, h⟩ := bd h
      obtain ⟨μ51, e51, h⟩ := bd h
      have hk := (kp_pfI e51).trans hk
      exact (p_X8_readSetting_J82 h).trans hk
theorem p_X8_readSetting_J11 {a0 : Nat} {l1 : Int32} {k0 : Int32} {μ : Mm} {x : (Int32 × Mm)} (h : f_X8_readSetting_J11 a0 l1 k0 μ = some x) : mm_P ((fun (q : (Int32 × Mm)) => q.2) x) = mm_P μ := by
  have hk : mm_P μ = mm_P μ := rfl
  rcases ite_e h with ⟨_, h⟩ | ⟨_, h⟩
  · obtain ⟨x31, e31, h⟩ := bd h
    have hk := (p_X8_readBetween e31).trans hk
    exact (p_X8_readSetting_J34 h).trans hk
  · obtain ⟨x20, e20, h⟩ := bd h
    have hk := (p_X8_readBetween e20).trans hk
    exact (p_X8_readSetting_J34 h).trans hk
theorem p_X8_readSetting {a0 : Nat} {l1 : Int32} {μ : Mm} {x : (Int32 × Mm)} (h : f_X8_readSetting a0 l1 μ = some x) : mm_P ((fun (q : (Int32 × Mm)) => q.2) x) = mm_P μ := by
  have hk : mm_P μ = mm_P μ := rfl
  obtain ⟨_, h⟩ := ite_p h
  rcases ite_e h with ⟨_, h⟩ | ⟨_, h⟩
  · exact (p_X8_readSetting_J11 h).trans hk
  · exact (p_X8_readSetting_J11 h).trans hk
theorem p_X8_readTalk {a0 : Nat} {μ : Mm} {x : (Int32 × Mm)} (h : f_X8_readTalk a0 μ = some x) : mm_P ((fun (q : (Int32 × Mm)) => q.2) x) = mm_P μ := by
  have hk : mm_P μ = mm_P μ := rfl
  obtain ⟨_, h⟩ := ite_p h
  obtain ⟨x1, e1, h⟩ := bd h
  have hk := (p_X8_readNamed e1).trans hk
  rcases ite_e h with ⟨_, h⟩ | ⟨_, h⟩
  · have h := Option.some.inj h
    subst h
    exact hk
  · obtain ⟨x13, e13, h⟩ := bd h
    have hk := (p_X8_readNamed e13).trans hk
    rcases ite_e h with ⟨_, h⟩ | ⟨_, h⟩
    · have h := Option.some.inj h
      subst h
      exact hk
    · rcases ite_e h with ⟨_, h⟩ | ⟨_, h⟩
      · obtain ⟨x31, e31, h⟩ := bd h
        have hk := (p_X8_fail e31).trans hk
        obtain ⟨_, h⟩ := ite_p h
        have h := Option.some.inj h
        subst h
        exact hk
      · obtain ⟨x39, e39, h⟩ := bd h
        have hk := (p_X8_readBetween e39).trans hk
        rcases ite_e h with ⟨_, h⟩ | ⟨_, h⟩
        · have h := Option.some.inj h
          subst h
          exact hk
        · obtain ⟨x51, e51, h⟩ := bd h
          obtain ⟨x54, e54, h⟩ := bd h
          obtain ⟨x61, e61, h⟩ := bd h
          have hk := (p_X2_add e61).trans hk
          obtain ⟨x65, e65, h⟩ := bd h
          have hk := (p_X8_readMark e65).trans hk
          obtain ⟨_, h⟩ := ite_p h
          have h := Option.some.inj h
          subst h
          exact hk
theorem p_X8_readTrade {a0 : Nat} {μ : Mm} {x : (Int32 × Mm)} (h : f_X8_readTrade a0 μ = some x) : mm_P ((fun (q : (Int32 × Mm)) => q.2) x) = mm_P μ := by
  have hk : mm_P μ = mm_P μ := rfl
  obtain ⟨_, h⟩ := ite_p h
  obtain ⟨x1, e1, h⟩ := bd h
  have hk := (p_X8_readNamed e1).trans hk
  obtain ⟨x6, e6, h⟩ := bd h
  obtain ⟨x10, e10, h⟩ := bd h
  rcases ite_e h with ⟨_, h⟩ | ⟨_, h⟩
  · have h := Option.some.inj h
    subst h
    exact hk
  · obtain ⟨x19, e19, h⟩ := bd h
    obtain ⟨x22, e22, h⟩ := bd h
    rcases ite_e h with ⟨_, h⟩ | ⟨_, h⟩
    · obtain ⟨x42, e42, h⟩ := bd h
      have hk := (p_X8_readBetween e42).trans hk
      rcases ite_e h with ⟨_, h⟩ | ⟨_, h⟩
      · have h := Option.some.inj h
        subst h
        exact hk
      · obtain ⟨x54, e54, h⟩ := bd h
        obtain ⟨x57, e57, h⟩ := bd h
        obtain ⟨μ62, e62, h⟩ := bd h
        have hk := (kp_paI e62).trans hk
        obtain ⟨x64, e64, h⟩ := bd h
        obtain ⟨x68, e68, h⟩ := bd h
        obtain ⟨μ75, e75, h⟩ := bd h
        have hk := (kp_pfI e75).trans hk
        obtain ⟨x79, e79, h⟩ := bd h
        have hk := (p_X8_readMark e79).trans hk
        obtain ⟨_, h⟩ := ite_p h
        have h := Option.some.inj h
        subst h
        exact hk
    · obtain ⟨x34, e34, h⟩ := bd h
      have hk := (p_X8_fail e34).trans hk
      obtain ⟨_, h⟩ := ite_p h
      have h := Option.some.inj h
      subst h
      exact hk
theorem p_X8_readWish {a0 : Nat} {l1 : Int32} {μ : Mm} {x : (Int32 × Mm)} (h : f_X8_readWish a0 l1 μ = some x) : mm_P ((fun (q : (Int32 × Mm)) => q.2) x) = mm_P μ := by
  have hk : mm_P μ = mm_P μ := rfl
  obtain ⟨_, h⟩ := ite_p h
  obtain ⟨x1, e1, h⟩ := bd h
  have hk := (p_X8_readNamed e1).trans hk
  rcases ite_e h with ⟨_, h⟩ | ⟨_, h⟩
  · have h := Option.some.inj h
    subst h
    exact hk
  · obtain ⟨x16, e16, h⟩ := bd h
    have hk := (p_X8_readBetween e16).trans hk
    rcases ite_e h with ⟨_, h⟩ | ⟨_, h⟩
    · have h := Option.some.inj h
      subst h
      exact hk
    · obtain ⟨x31, e31, h⟩ := bd h
      have hk := (p_X8_readBetween e31).trans hk
      rcases ite_e h with ⟨_, h⟩ | ⟨_, h⟩
      · have h := Option.some.inj h
        subst h
        exact hk
      · obtain ⟨x45, e45, h⟩ := bd h
        obtain ⟨x48, e48, h⟩ := bd h
        obtain ⟨x56, e56, h⟩ := bd h
        have hk := (p_X2_add e56).trans hk
        obtain ⟨x60, e60, h⟩ := bd h
        have hk := (p_X8_readMark e60).trans hk
        obtain ⟨_, h⟩ := ite_p h
        have h := Option.some.inj h
        subst h
        exact hk
theorem p_X8_readClause_J40 {a0 : Nat} {l1 : Int32} {μ : Mm} {x : (Int32 × Mm)} (h : f_X8_readClause_J40 a0 l1 μ = some x) : mm_P ((fun (q : (Int32 × Mm)) => q.2) x) = mm_P μ := by
  have hk : mm_P μ = mm_P μ := rfl
  obtain ⟨x42, e42, h⟩ := bd h
  rcases ite_e h with ⟨_, h⟩ | ⟨_, h⟩
  · obtain ⟨x56, e56, h⟩ := bd h
    obtain ⟨μ63, e63, h⟩ := bd h
    have hk := (kp_pfI e63).trans hk
    rcases ite_e h with ⟨_, h⟩ | ⟨_, h⟩
    · obtain ⟨x117, e117, h⟩ := bd h
      have hk := (p_X8_readPerson e117).trans hk
      obtain ⟨_, h⟩ := ite_p h
      have h := Option.some.inj h
      subst h
      exact hk
    rcases ite_e h with ⟨_, h⟩ | ⟨_, h⟩
    · obtain ⟨x122, e122, h⟩ := bd h
      have hk := (p_X8_readDreams e122).trans hk
      obtain ⟨_, h⟩ := ite_p h
      have h := Option.some.inj h
      subst h
      exact hk
    rcases ite_e h with ⟨_, h⟩ | ⟨_, h⟩
    · obtain ⟨x128, e128, h⟩ := bd h
      obtain ⟨x131, e131, h⟩ := bd h
      obtain ⟨x134, e134, h⟩ := bd h
      have hk := (p_X8_readPersonAndDay e134).trans hk
      obtain ⟨_, h⟩ := ite_p h
      have h := Option.some.inj h
      subst h
      exact hk
    rcases ite_e h with ⟨_, h⟩ | ⟨_, h⟩
    · obtain ⟨x139, e139, h⟩ := bd h
      have hk := (p_X8_readTalk e139).trans hk
      obtain ⟨_, h⟩ := ite_p h
      have h := Option.some.inj h
      subst h
      exact hk
    rcases ite_e h with ⟨_, h⟩ | ⟨_, h⟩
    · obtain ⟨x145, e145, h⟩ := bd h
      obtain ⟨x148, e148, h⟩ := bd h
      obtain ⟨x151, e151, h⟩ := bd h
      have hk := (p_X8_readPersonAndDay e151).trans hk
      obtain ⟨_, h⟩ := ite_p h
      have h := Option.some.inj h
      subst h
      exact hk
    rcases ite_e h with ⟨_, h⟩ | ⟨_, h⟩
    · obtain ⟨x156, e156, h⟩ := bd h
      have hk := (p_X8_readDull e156).trans hk
      obtain ⟨_, h⟩ := ite_p h
      have h := Option.some.inj h
      subst h
      exact hk
    rcases ite_e h with ⟨_, h⟩ | ⟨_, h⟩
    · obtain ⟨x162, e162, h⟩ := bd h
      have hk := (p_X8_readWish e162).trans hk
      obtain ⟨_, h⟩ := ite_p h
      have h := Option.some.inj h
      subst h
      exact hk
    rcases ite_e h with ⟨_, h⟩ | ⟨_, h⟩
    · obtain ⟨x168, e168, h⟩ := bd h
      have hk := (p_X8_readWish e168).trans hk
      obtain ⟨_, h⟩ := ite_p h
      have h := Option.some.inj h
      subst h
      exact hk
    rcases ite_e h with ⟨_, h⟩ | ⟨_, h⟩
    · obtain ⟨x173, e173, h⟩ := bd h
      have hk := (p_X8_readTrade e173).trans hk
      obtain ⟨_, h⟩ := ite_p h
      have h := Option.some.inj h
      subst h
      exact hk
    obtain ⟨x179, e179, h⟩ := bd h
    have hk := (p_X8_readSetting e179).trans hk
    obtain ⟨_, h⟩ := ite_p h
    have h := Option.some.inj h
    subst h
    exact hk
  · obtain ⟨x50, e50, h⟩ := bd h
    have hk := (p_X8_fail e50).trans hk
    obtain ⟨_, h⟩ := ite_p h
    have h := Option.some.inj h
    subst h
    exact hk
theorem p_X8_readClause {a0 : Nat} {μ : Mm} {x : (Int32 × Mm)} (h : f_X8_readClause a0 μ = some x) : mm_P ((fun (q : (Int32 × Mm)) => q.2) x) = mm_P μ := by
  have hk : mm_P μ = mm_P μ := rfl
  obtain ⟨_, h⟩ := ite_p h
  obtain ⟨x1, e1, h⟩ := bd h
  rcases ite_e h with ⟨_, h⟩ | ⟨_, h⟩
  · obtain ⟨x12, e12, h⟩ := bd h
    have hk := (p_X8_fail e12).trans hk
    obtain ⟨_, h⟩ := ite_p h
    have h := Option.some.inj h
    subst h
    exact hk
  · obtain ⟨x17, e17, h⟩ := bd h
    rcases ite_e h with ⟨_, h⟩ | ⟨_, h⟩
    · exact (p_X8_readClause_J40 h).trans hk
    · obtain ⟨x24, e24, h⟩ := bd h
      rcases ite_e h with ⟨_, h⟩ | ⟨_, h⟩
      · exact (p_X8_readClause_J40 h).trans hk
      · obtain ⟨x36, e36, h⟩ := bd h
        have hk := (p_X8_fail e36).trans hk
        obtain ⟨_, h⟩ := ite_p h
        have h := Option.some.inj h
        subst h
        exact hk
theorem p_X10_turn {a0 : Nat} {l1 : Int32} {μ : Mm} {x : (Int32 × Mm)} (h : f_X10_turn a0 l1 μ = some x) : mm_P ((fun (q : (Int32 × Mm)) => q.2) x) = mm_P μ := by
  have hk : mm_P μ = mm_P μ := rfl
  obtain ⟨_, h⟩ := ite_p h
  rcases ite_e h with ⟨_, h⟩ | ⟨_, h⟩
  · have h := Option.some.inj h
    subst h
    exact hk
  · obtain ⟨x6, e6, h⟩ := bd h
    obtain ⟨x9, e9, h⟩ := bd h
    obtain ⟨x12, e12, h⟩ := bd h
    rcases ite_e h with ⟨_, h⟩ | ⟨_, h⟩
    · obtain ⟨x23, e23, h⟩ := bd h
      obtain ⟨x26, e26, h⟩ := bd h
      obtain ⟨x30, e30, h⟩ := bd h
      obtain ⟨μ33, e33, h⟩ := bd h
      have hk := (kp_pfI e33).trans hk
      have h := Option.some.inj h
      subst h
      exact hk
    · have h := Option.some.inj h
      subst h
      exact hk
theorem p_X11_act {a0 : Nat} {l1 : Int32} {l2 : Int32} {l3 : Int32} {l4 : Int32} {l5 : Int32} {μ : Mm} {x : (Int32 × Mm)} (h : f_X11_act a0 l1 l2 l3 l4 l5 μ = some x) : mm_P ((fun (q : (Int32 × Mm)) => q.2) x) = mm_P μ := by
  have hk : mm_P μ = mm_P μ := rfl
  obtain ⟨_, h⟩ := ite_p h
  obtain ⟨x2, e2, h⟩ := bd h
  obtain ⟨x8, e8, h⟩ := bd h
  rcases ite_e h with ⟨_, h⟩ | ⟨_, h⟩
  · have h := Option.some.inj h
    subst h
    exact hk
  · obtain ⟨x15, e15, h⟩ := bd h
    rcases ite_e h with ⟨_, h⟩ | ⟨_, h⟩
    · have h := Option.some.inj h
      subst h
      exact hk
    · obtain ⟨x23, e23, h⟩ := bd h
      rcases ite_e h with ⟨_, h⟩ | ⟨_, h⟩
      · have h := Option.some.inj h
        subst h
        exact hk
      · obtain ⟨x32, e32, h⟩ := bd h
        rcases ite_e h with ⟨_, h⟩ | ⟨_, h⟩
        · have h := Option.some.inj h
          subst h
          exact hk
        · obtain ⟨x42, e42, h⟩ := bd h
          rcases ite_e h with ⟨_, h⟩ | ⟨_, h⟩
          · have h := Option.some.inj h
            subst h
            exact hk
          · obtain ⟨x52, e52, h⟩ := bd h
            rcases ite_e h with ⟨_, h⟩ | ⟨_, h⟩
            · have h := Option.some.inj h
              subst h
              exact hk
            · obtain ⟨μ65, e65, h⟩ := bd h
              have hk := (kp_pfI e65).trans hk
              obtain ⟨x69, e69, h⟩ := bd h
              obtain ⟨x73, e73, h⟩ := bd h
              obtain ⟨μ77, e77, h⟩ := bd h
              have hk := (kp_paI e77).trans hk
              obtain ⟨x79, e79, h⟩ := bd h
              obtain ⟨x83, e83, h⟩ := bd h
              obtain ⟨μ87, e87, h⟩ := bd h
              have hk := (kp_paI e87).trans hk
              obtain ⟨x89, e89, h⟩ := bd h
              obtain ⟨x93, e93, h⟩ := bd h
              obtain ⟨μ97, e97, h⟩ := bd h
              have hk := (kp_paI e97).trans hk
              obtain ⟨x99, e99, h⟩ := bd h
              obtain ⟨x103, e103, h⟩ := bd h
              obtain ⟨μ108, e108, h⟩ := bd h
              have hk := (kp_paI e108).trans hk
              obtain ⟨x110, e110, h⟩ := bd h
              obtain ⟨x114, e114, h⟩ := bd h
              obtain ⟨μ119, e119, h⟩ := bd h
              have hk := (kp_paI e119).trans hk
              obtain ⟨x122, e122, h⟩ := bd h
              obtain ⟨μ127, e127, h⟩ := bd h
              have hk := (kp_pfI e127).trans hk
              obtain ⟨x131, e131, h⟩ := bd h
              have h := Option.some.inj h
              subst h
              exact hk
theorem p_X11_learns_J42 {a0 : Nat} {l1 : Int32} {l2 : Int32} {l3 : Int32} {l4 : Int32} {l5 : Int32} {k0 : Int32} {μ : Mm} {x : Mm} (h : f_X11_learns_J42 a0 l1 l2 l3 l4 l5 k0 μ = some x) : mm_P ((fun (q : Mm) => q) x) = mm_P μ := by
  have hk : mm_P μ = mm_P μ := rfl
  obtain ⟨x45, e45, h⟩ := bd h
  obtain ⟨x50, e50, h⟩ := bd h
  obtain ⟨μ53, e53, h⟩ := bd h
  have hk := (kp_paI e53).trans hk
  rcases ite_e h with ⟨_, h⟩ | ⟨_, h⟩
  · have h := Option.some.inj h
    subst h
    exact hk
  · obtain ⟨μ62, e62, h⟩ := bd h
    have hk := (kp_pfI e62).trans hk
    obtain ⟨μ68, e68, h⟩ := bd h
    have hk := (kp_pfI e68).trans hk
    obtain ⟨μ74, e74, h⟩ := bd h
    have hk := (kp_pfI e74).trans hk
    have h := Option.some.inj h
    subst h
    exact hk
theorem p_X11_learns_J41 {a0 : Nat} {l1 : Int32} {l2 : Int32} {l3 : Int32} {l4 : Int32} {l5 : Int32} {μ : Mm} {x : Mm} (h : f_X11_learns_J41 a0 l1 l2 l3 l4 l5 μ = some x) : mm_P ((fun (q : Mm) => q) x) = mm_P μ := by
  have hk : mm_P μ = mm_P μ := rfl
  exact (p_X11_learns_J42 h).trans hk
theorem p_X11_learns {a0 : Nat} {l1 : Int32} {l2 : Int32} {l3 : Int32} {l4 : Int32} {l5 : Int32} {μ : Mm} {x : Mm} (h : f_X11_learns a0 l1 l2 l3 l4 l5 μ = some x) : mm_P ((fun (q : Mm) => q) x) = mm_P μ := by
  have hk : mm_P μ = mm_P μ := rfl
  obtain ⟨_, h⟩ := ite_p h
  obtain ⟨x2, e2, h⟩ := bd h
  rcases ite_e h with ⟨_, h⟩ | ⟨_, h⟩
  · obtain ⟨x9, e9, h⟩ := bd h
    rcases ite_e h with ⟨_, h⟩ | ⟨_, h⟩
    · obtain ⟨x18, e18, h⟩ := bd h
      obtain ⟨x22, e22, h⟩ := bd h
      obtain ⟨x27, e27, h⟩ := bd h
      rcases ite_e h with ⟨_, h⟩ | ⟨_, h⟩
      · exact (p_X11_learns_J42 h).trans hk
      · exact (p_X11_learns_J41 h).trans hk
    · exact (p_X11_learns_J41 h).trans hk
  · exact (p_X11_learns_J41 h).trans hk
theorem p_X11_byDay_J252 {a0 : Nat} {l3 : Int32} {l4 : Int32} {l5 : Int32} {μ : Mm} {x : ((Int32 × Mm) ⊕ (Mm))} (h : f_X11_byDay_J252 a0 l3 l4 l5 μ = some x) : mm_P ((sm (fun (q : Int32 × Mm) => q.2) (fun (q : Mm) => q)) x) = mm_P μ := by
  have hk : mm_P μ = mm_P μ := rfl
  obtain ⟨v252, e252, h⟩ := bd h
  have h := Option.some.inj h
  subst h
  exact hk
theorem p_X11_byDay_L151 {a0 : Nat} {l3 : Int32} {l4 : Int32} {s151 : Int32 × Mm} {x : ((Int32 × Mm) ⊕ (Mm))} (h : f_X11_byDay_L151 a0 l3 l4 s151 = some x) : mm_P (sm (fun (q : Int32 × Mm) => q.2) (fun (q : Mm) => q) x) = mm_P ((fun (q : Int32 × Mm) => q.2) s151) := by
  have hk : mm_P (s151.2) = mm_P (s151.2) := rfl
  obtain ⟨x154, e154, h⟩ := bd h
  obtain ⟨x158, e158, h⟩ := bd h
  rcases ite_e h with ⟨_, h⟩ | ⟨_, h⟩
  · have h := Option.some.inj h
    subst h
    exact hk
  · rcases ite_e h with ⟨_, h⟩ | ⟨_, h⟩
    · have h := Option.some.inj h
      subst h
      exact hk
    · obtain ⟨x171, e171, h⟩ := bd h
      obtain ⟨x176, e176, h⟩ := bd h
      obtain ⟨_, h⟩ := ite_n h
      rcases ite_e h with ⟨_, h⟩ | ⟨_, h⟩
      · obtain ⟨x185, e185, h⟩ := bd h
        obtain ⟨x190, e190, h⟩ := bd h
        obtain ⟨x194, e194, h⟩ := bd h
        obtain ⟨x199, e199, h⟩ := bd h
        obtain ⟨x203, e203, h⟩ := bd h
        obtain ⟨x208, e208, h⟩ := bd h
        obtain ⟨x210, e210, h⟩ := bd h
        obtain ⟨x215, e215, h⟩ := bd h
        obtain ⟨x218, e218, h⟩ := bd h
        obtain ⟨x222, e222, h⟩ := bd h
        obtain ⟨v226, e226, h⟩ := bd h
        obtain ⟨x237, e237, h⟩ := bd h
        have hk := (p_X11_learns e237).trans hk
        obtain ⟨x249, e249, h⟩ := bd h
        have hk := (p_X11_learns e249).trans hk
        exact (p_X11_byDay_J252 h).trans hk
      · exact (p_X11_byDay_J252 h).trans hk
theorem p_X11_byDay_W151 {a0 : Nat} {l3 : Int32} {l4 : Int32} {s151 : Int32 × Mm} {b : Mm} (h : whl (f_X11_byDay_L151 a0 l3 l4) s151 = some b) : mm_P ((fun (q : Mm) => q) b) = mm_P ((fun (q : Int32 × Mm) => q.2) s151) :=
  whl_P (g := (fun (q : Int32 × Mm) => q.2)) (gb := (fun (q : Mm) => q)) (fun s x hx => p_X11_byDay_L151 hx) h
theorem p_X11_byDay_J148 {a0 : Nat} {l3 : Int32} {l4 : Int32} {μ : Mm} {x : Mm} (h : f_X11_byDay_J148 a0 l3 l4 μ = some x) : mm_P ((fun (q : Mm) => q) x) = mm_P μ := by
  have hk : mm_P μ = mm_P μ := rfl
  obtain ⟨b151, w151, h⟩ := bd h
  have hk := (p_X11_byDay_W151 w151).trans hk
  have h := Option.some.inj h
  subst h
  exact hk
theorem p_X11_byDay_J142 {a0 : Nat} {l1 : Int64} {l3 : Int32} {l4 : Int32} {l5 : Int32} {μ : Mm} {x : ((Int32 × Mm) ⊕ (Mm))} (h : f_X11_byDay_J142 a0 l1 l3 l4 l5 μ = some x) : mm_P ((sm (fun (q : Int32 × Mm) => q.2) (fun (q : Mm) => q)) x) = mm_P μ := by
  have hk : mm_P μ = mm_P μ := rfl
  obtain ⟨v142, e142, h⟩ := bd h
  have h := Option.some.inj h
  subst h
  exact hk
theorem p_X11_byDay_L52 {a0 : Nat} {l1 : Int64} {l3 : Int32} {l4 : Int32} {s52 : Int32 × Mm} {x : ((Int32 × Mm) ⊕ (Mm))} (h : f_X11_byDay_L52 a0 l1 l3 l4 s52 = some x) : mm_P (sm (fun (q : Int32 × Mm) => q.2) (fun (q : Mm) => q) x) = mm_P ((fun (q : Int32 × Mm) => q.2) s52) := by
  have hk : mm_P (s52.2) = mm_P (s52.2) := rfl
  obtain ⟨x55, e55, h⟩ := bd h
  obtain ⟨x59, e59, h⟩ := bd h
  rcases ite_e h with ⟨_, h⟩ | ⟨_, h⟩
  · have h := Option.some.inj h
    subst h
    exact hk
  · rcases ite_e h with ⟨_, h⟩ | ⟨_, h⟩
    · have h := Option.some.inj h
      subst h
      exact hk
    · obtain ⟨x72, e72, h⟩ := bd h
      obtain ⟨x77, e77, h⟩ := bd h
      obtain ⟨x78, e78, h⟩ := bd h
      obtain ⟨x84, e84, h⟩ := bd h
      obtain ⟨x89, e89, h⟩ := bd h
      rcases ite_e h with ⟨_, h⟩ | ⟨_, h⟩
      · rcases ite_e h with ⟨_, h⟩ | ⟨_, h⟩
        · exact (p_X11_byDay_J142 h).trans hk
        · obtain ⟨x104, e104, h⟩ := bd h
          rcases ite_e h with ⟨_, h⟩ | ⟨_, h⟩
          · obtain ⟨x112, e112, h⟩ := bd h
            obtain ⟨x117, e117, h⟩ := bd h
            obtain ⟨x119, e119, h⟩ := bd h
            obtain ⟨x124, e124, h⟩ := bd h
            obtain ⟨x126, e126, h⟩ := bd h
            obtain ⟨x131, e131, h⟩ := bd h
            obtain ⟨x139, e139, h⟩ := bd h
            have hk := (p_X11_learns e139).trans hk
            exact (p_X11_byDay_J142 h).trans hk
          · exact (p_X11_byDay_J142 h).trans hk
      · exact (p_X11_byDay_J142 h).trans hk
theorem p_X11_byDay_W52 {a0 : Nat} {l1 : Int64} {l3 : Int32} {l4 : Int32} {s52 : Int32 × Mm} {b : Mm} (h : whl (f_X11_byDay_L52 a0 l1 l3 l4) s52 = some b) : mm_P ((fun (q : Mm) => q) b) = mm_P ((fun (q : Int32 × Mm) => q.2) s52) :=
  whl_P (g := (fun (q : Int32 × Mm) => q.2)) (gb := (fun (q : Mm) => q)) (fun s x hx => p_X11_byDay_L52 hx) h
theorem p_X11_byDay_J49 {a0 : Nat} {l1 : Int64} {l3 : Int32} {l4 : Int32} {μ : Mm} {x : Mm} (h : f_X11_byDay_J49 a0 l1 l3 l4 μ = some x) : mm_P ((fun (q : Mm) => q) x) = mm_P μ := by
  have hk : mm_P μ = mm_P μ := rfl
  obtain ⟨b52, w52, h⟩ := bd h
  have hk := (p_X11_byDay_W52 w52).trans hk
  exact (p_X11_byDay_J148 h).trans hk
theorem p_X11_byDay_J43 {a0 : Nat} {l1 : Int64} {l3 : Int32} {l4 : Int32} {l5 : Int32} {μ : Mm} {x : ((Int32 × Mm) ⊕ (Mm))} (h : f_X11_byDay_J43 a0 l1 l3 l4 l5 μ = some x) : mm_P ((sm (fun (q : Int32 × Mm) => q.2) (fun (q : Mm) => q)) x) = mm_P μ := by
  have hk : mm_P μ = mm_P μ := rfl
  obtain ⟨v43, e43, h⟩ := bd h
  have h := Option.some.inj h
  subst h
  exact hk
theorem p_X11_byDay_L3 {a0 : Nat} {l1 : Int64} {l3 : Int32} {l4 : Int32} {s3 : Int32 × Mm} {x : ((Int32 × Mm) ⊕ (Mm))} (h : f_X11_byDay_L3 a0 l1 l3 l4 s3 = some x) : mm_P (sm (fun (q : Int32 × Mm) => q.2) (fun (q : Mm) => q) x) = mm_P ((fun (q : Int32 × Mm) => q.2) s3) := by
  have hk : mm_P (s3.2) = mm_P (s3.2) := rfl
  obtain ⟨x6, e6, h⟩ := bd h
  obtain ⟨x10, e10, h⟩ := bd h
  rcases ite_e h with ⟨_, h⟩ | ⟨_, h⟩
  · have h := Option.some.inj h
    subst h
    exact hk
  · obtain ⟨x15, e15, h⟩ := bd h
    obtain ⟨x20, e20, h⟩ := bd h
    rcases ite_e h with ⟨_, h⟩ | ⟨_, h⟩
    · obtain ⟨x27, e27, h⟩ := bd h
      obtain ⟨x32, e32, h⟩ := bd h
      obtain ⟨x40, e40, h⟩ := bd h
      have hk := (p_X11_learns e40).trans hk
      exact (p_X11_byDay_J43 h).trans hk
    · exact (p_X11_byDay_J43 h).trans hk
theorem p_X11_byDay_W3 {a0 : Nat} {l1 : Int64} {l3 : Int32} {l4 : Int32} {s3 : Int32 × Mm} {b : Mm} (h : whl (f_X11_byDay_L3 a0 l1 l3 l4) s3 = some b) : mm_P ((fun (q : Mm) => q) b) = mm_P ((fun (q : Int32 × Mm) => q.2) s3) :=
  whl_P (g := (fun (q : Int32 × Mm) => q.2)) (gb := (fun (q : Mm) => q)) (fun s x hx => p_X11_byDay_L3 hx) h
theorem p_X11_byDay {a0 : Nat} {l1 : Int64} {l3 : Int32} {l4 : Int32} {μ : Mm} {x : Mm} (h : f_X11_byDay a0 l1 l3 l4 μ = some x) : mm_P ((fun (q : Mm) => q) x) = mm_P μ := by
  have hk : mm_P μ = mm_P μ := rfl
  obtain ⟨_, h⟩ := ite_p h
  obtain ⟨b3, w3, h⟩ := bd h
  have hk := (p_X11_byDay_W3 w3).trans hk
  exact (p_X11_byDay_J49 h).trans hk
theorem p_X11_byNight_J103 {a0 : Nat} {l1 : Int64} {l3 : Int32} {l5 : Int32} {μ : Mm} {x : ((Int32 × Mm) ⊕ (Mm))} (h : f_X11_byNight_J103 a0 l1 l3 l5 μ = some x) : mm_P ((sm (fun (q : Int32 × Mm) => q.2) (fun (q : Mm) => q)) x) = mm_P μ := by
  have hk : mm_P μ = mm_P μ := rfl
  obtain ⟨v103, e103, h⟩ := bd h
  have h := Option.some.inj h
  subst h
  exact hk
theorem p_X11_byNight_L41 {a0 : Nat} {l1 : Int64} {l3 : Int32} {s41 : Int32 × Mm} {x : ((Int32 × Mm) ⊕ (Mm))} (h : f_X11_byNight_L41 a0 l1 l3 s41 = some x) : mm_P (sm (fun (q : Int32 × Mm) => q.2) (fun (q : Mm) => q) x) = mm_P ((fun (q : Int32 × Mm) => q.2) s41) := by
  have hk : mm_P (s41.2) = mm_P (s41.2) := rfl
  obtain ⟨x44, e44, h⟩ := bd h
  obtain ⟨x48, e48, h⟩ := bd h
  rcases ite_e h with ⟨_, h⟩ | ⟨_, h⟩
  · have h := Option.some.inj h
    subst h
    exact hk
  · obtain ⟨x55, e55, h⟩ := bd h
    rcases ite_e h with ⟨_, h⟩ | ⟨_, h⟩
    · exact (p_X11_byNight_J103 h).trans hk
    · obtain ⟨x70, e70, h⟩ := bd h
      rcases ite_e h with ⟨_, h⟩ | ⟨_, h⟩
      · obtain ⟨x80, e80, h⟩ := bd h
        obtain ⟨x85, e85, h⟩ := bd h
        obtain ⟨x87, e87, h⟩ := bd h
        obtain ⟨x92, e92, h⟩ := bd h
        obtain ⟨x100, e100, h⟩ := bd h
        have hk := (p_X11_learns e100).trans hk
        exact (p_X11_byNight_J103 h).trans hk
      · exact (p_X11_byNight_J103 h).trans hk
theorem p_X11_byNight_W41 {a0 : Nat} {l1 : Int64} {l3 : Int32} {s41 : Int32 × Mm} {b : Mm} (h : whl (f_X11_byNight_L41 a0 l1 l3) s41 = some b) : mm_P ((fun (q : Mm) => q) b) = mm_P ((fun (q : Int32 × Mm) => q.2) s41) :=
  whl_P (g := (fun (q : Int32 × Mm) => q.2)) (gb := (fun (q : Mm) => q)) (fun s x hx => p_X11_byNight_L41 hx) h
theorem p_X11_byNight_J38 {a0 : Nat} {l1 : Int64} {l3 : Int32} {μ : Mm} {x : Mm} (h : f_X11_byNight_J38 a0 l1 l3 μ = some x) : mm_P ((fun (q : Mm) => q) x) = mm_P μ := by
  have hk : mm_P μ = mm_P μ := rfl
  obtain ⟨b41, w41, h⟩ := bd h
  have hk := (p_X11_byNight_W41 w41).trans hk
  have h := Option.some.inj h
  subst h
  exact hk
theorem p_X11_byNight_L11 {a0 : Nat} {l1 : Int64} {l3 : Int32} {s11 : Int32 × Mm} {x : ((Int32 × Mm) ⊕ (Mm))} (h : f_X11_byNight_L11 a0 l1 l3 s11 = some x) : mm_P (sm (fun (q : Int32 × Mm) => q.2) (fun (q : Mm) => q) x) = mm_P ((fun (q : Int32 × Mm) => q.2) s11) := by
  have hk : mm_P (s11.2) = mm_P (s11.2) := rfl
  rcases ite_e h with ⟨_, h⟩ | ⟨_, h⟩
  · have h := Option.some.inj h
    subst h
    exact hk
  · obtain ⟨x19, e19, h⟩ := bd h
    obtain ⟨x25, e25, h⟩ := bd h
    obtain ⟨x30, e30, h⟩ := bd h
    obtain ⟨μ31, e31, h⟩ := bd h
    have hk := (kp_paI e31).trans hk
    obtain ⟨v32, e32, h⟩ := bd h
    have h := Option.some.inj h
    subst h
    exact hk
theorem p_X11_byNight_W11 {a0 : Nat} {l1 : Int64} {l3 : Int32} {s11 : Int32 × Mm} {b : Mm} (h : whl (f_X11_byNight_L11 a0 l1 l3) s11 = some b) : mm_P ((fun (q : Mm) => q) b) = mm_P ((fun (q : Int32 × Mm) => q.2) s11) :=
  whl_P (g := (fun (q : Int32 × Mm) => q.2)) (gb := (fun (q : Mm) => q)) (fun s x hx => p_X11_byNight_L11 hx) h
theorem p_X11_byNight {a0 : Nat} {l1 : Int64} {l3 : Int32} {l4 : Int32} {μ : Mm} {x : Mm} (h : f_X11_byNight a0 l1 l3 l4 μ = some x) : mm_P ((fun (q : Mm) => q) x) = mm_P μ := by
  have hk : mm_P μ = mm_P μ := rfl
  obtain ⟨_, h⟩ := ite_p h
  rcases ite_e h with ⟨_, h⟩ | ⟨_, h⟩
  · have h := Option.some.inj h
    subst h
    exact hk
  · obtain ⟨b11, w11, h⟩ := bd h
    have hk := (p_X11_byNight_W11 w11).trans hk
    exact (p_X11_byNight_J38 h).trans hk
theorem p_X11_forget_J21 {a0 : Nat} {μ : Mm} {x : Mm} (h : f_X11_forget_J21 a0 μ = some x) : mm_P ((fun (q : Mm) => q) x) = mm_P μ := by
  have hk : mm_P μ = mm_P μ := rfl
  obtain ⟨μ23, e23, h⟩ := bd h
  have hk := (kp_pfI e23).trans hk
  obtain ⟨μ28, e28, h⟩ := bd h
  have hk := (kp_pfI e28).trans hk
  obtain ⟨μ33, e33, h⟩ := bd h
  have hk := (kp_pfI e33).trans hk
  have h := Option.some.inj h
  subst h
  exact hk
theorem p_X11_forget_L2 {a0 : Nat} {s2 : Int32 × Mm} {x : ((Int32 × Mm) ⊕ (Mm))} (h : f_X11_forget_L2 a0 s2 = some x) : mm_P (sm (fun (q : Int32 × Mm) => q.2) (fun (q : Mm) => q) x) = mm_P ((fun (q : Int32 × Mm) => q.2) s2) := by
  have hk : mm_P (s2.2) = mm_P (s2.2) := rfl
  rcases ite_e h with ⟨_, h⟩ | ⟨_, h⟩
  · have h := Option.some.inj h
    subst h
    exact hk
  · obtain ⟨x9, e9, h⟩ := bd h
    obtain ⟨μ14, e14, h⟩ := bd h
    have hk := (kp_paI e14).trans hk
    obtain ⟨v15, e15, h⟩ := bd h
    have h := Option.some.inj h
    subst h
    exact hk
theorem p_X11_forget_W2 {a0 : Nat} {s2 : Int32 × Mm} {b : Mm} (h : whl (f_X11_forget_L2 a0) s2 = some b) : mm_P ((fun (q : Mm) => q) b) = mm_P ((fun (q : Int32 × Mm) => q.2) s2) :=
  whl_P (g := (fun (q : Int32 × Mm) => q.2)) (gb := (fun (q : Mm) => q)) (fun s x hx => p_X11_forget_L2 hx) h
theorem p_X11_forget {a0 : Nat} {μ : Mm} {x : Mm} (h : f_X11_forget a0 μ = some x) : mm_P ((fun (q : Mm) => q) x) = mm_P μ := by
  have hk : mm_P μ = mm_P μ := rfl
  obtain ⟨_, h⟩ := ite_p h
  obtain ⟨b2, w2, h⟩ := bd h
  have hk := (p_X11_forget_W2 w2).trans hk
  exact (p_X11_forget_J21 h).trans hk
theorem p_X11_all_L24 {a0 : Nat} {l1 : Int32} {l2 : Int32} {s24 : Int32 × Mm} {x : ((Int32 × Mm) ⊕ ((Int32 × Mm) ⊕ (Mm)))} (h : f_X11_all_L24 a0 l1 l2 s24 = some x) : mm_P (sm (fun (q : Int32 × Mm) => q.2) (sm (fun (q : Int32 × Mm) => q.2) (fun (q : Mm) => q)) x) = mm_P ((fun (q : Int32 × Mm) => q.2) s24) := by
  have hk : mm_P (s24.2) = mm_P (s24.2) := rfl
  rcases ite_e h with ⟨_, h⟩ | ⟨_, h⟩
  · have h := Option.some.inj h
    subst h
    exact hk
  · obtain ⟨x32, e32, h⟩ := bd h
    obtain ⟨x36, e36, h⟩ := bd h
    obtain ⟨x39, e39, h⟩ := bd h
    obtain ⟨x42, e42, h⟩ := bd h
    have hk := (p_X11_byDay e42).trans hk
    obtain ⟨x47, e47, h⟩ := bd h
    obtain ⟨x51, e51, h⟩ := bd h
    obtain ⟨x54, e54, h⟩ := bd h
    obtain ⟨x57, e57, h⟩ := bd h
    have hk := (p_X11_byNight e57).trans hk
    obtain ⟨x62, e62, h⟩ := bd h
    obtain ⟨x66, e66, h⟩ := bd h
    obtain ⟨x70, e70, h⟩ := bd h
    rcases ite_e h with ⟨_, h⟩ | ⟨_, h⟩
    · have h := Option.some.inj h
      subst h
      exact hk
    · obtain ⟨v76, e76, h⟩ := bd h
      have h := Option.some.inj h
      subst h
      exact hk
theorem p_X11_all_W24 {a0 : Nat} {l1 : Int32} {l2 : Int32} {s24 : Int32 × Mm} {b : (Int32 × Mm) ⊕ (Mm)} (h : whl (f_X11_all_L24 a0 l1 l2) s24 = some b) : mm_P ((sm (fun (q : Int32 × Mm) => q.2) (fun (q : Mm) => q)) b) = mm_P ((fun (q : Int32 × Mm) => q.2) s24) :=
  whl_P (g := (fun (q : Int32 × Mm) => q.2)) (gb := (sm (fun (q : Int32 × Mm) => q.2) (fun (q : Mm) => q))) (fun s x hx => p_X11_all_L24 hx) h
theorem p_X11_all {a0 : Nat} {l1 : Int32} {l2 : Int32} {μ : Mm} {x : (Int32 × Mm)} (h : f_X11_all a0 l1 l2 μ = some x) : mm_P ((fun (q : (Int32 × Mm)) => q.2) x) = mm_P μ := by
  have hk : mm_P μ = mm_P μ := rfl
  obtain ⟨_, h⟩ := ite_p h
  obtain ⟨x2, e2, h⟩ := bd h
  rcases ite_e h with ⟨_, h⟩ | ⟨_, h⟩
  · have h := Option.some.inj h
    subst h
    exact hk
  · obtain ⟨x9, e9, h⟩ := bd h
    rcases ite_e h with ⟨_, h⟩ | ⟨_, h⟩
    · have h := Option.some.inj h
      subst h
      exact hk
    · obtain ⟨x19, e19, h⟩ := bd h
      have hk := (p_X11_forget e19).trans hk
      obtain ⟨b24, w24, h⟩ := bd h
      have hk := (p_X11_all_W24 w24).trans hk
      rcases b24 with b24 | b24
      · have h := Option.some.inj h
        subst h
        exact hk
      · have h := Option.some.inj h
        subst h
        exact hk
theorem p_X11_countFits_J156 {a0 : Nat} {l1 : Int32} {μ : Mm} {x : ((Int32 × Mm) ⊕ (Mm))} (h : f_X11_countFits_J156 a0 l1 μ = some x) : mm_P ((sm (fun (q : Int32 × Mm) => q.2) (fun (q : Mm) => q)) x) = mm_P μ := by
  have hk : mm_P μ = mm_P μ := rfl
  obtain ⟨v156, e156, h⟩ := bd h
  have h := Option.some.inj h
  subst h
  exact hk
theorem p_X11_countFits_J137 {a0 : Nat} {l1 : Int32} {l2 : Int32} {μ : Mm} {x : ((Int32 × Mm) ⊕ (Mm))} (h : f_X11_countFits_J137 a0 l1 l2 μ = some x) : mm_P ((sm (fun (q : Int32 × Mm) => q.2) (fun (q : Mm) => q)) x) = mm_P μ := by
  have hk : mm_P μ = mm_P μ := rfl
  obtain ⟨x139, e139, h⟩ := bd h
  obtain ⟨x143, e143, h⟩ := bd h
  obtain ⟨x147, e147, h⟩ := bd h
  have hk := (p_X11_byNight e147).trans hk
  obtain ⟨v150, e150, h⟩ := bd h
  have h := Option.some.inj h
  subst h
  exact hk
theorem p_X11_countFits_J131 {a0 : Nat} {l1 : Int32} {l2 : Int32} {l3 : Int32} {μ : Mm} {x : ((Int32 × Mm) ⊕ (Mm))} (h : f_X11_countFits_J131 a0 l1 l2 l3 μ = some x) : mm_P ((sm (fun (q : Int32 × Mm) => q.2) (fun (q : Mm) => q)) x) = mm_P μ := by
  have hk : mm_P μ = mm_P μ := rfl
  obtain ⟨v131, e131, h⟩ := bd h
  have h := Option.some.inj h
  subst h
  exact hk
theorem p_X11_countFits_L83 {a0 : Nat} {l1 : Int32} {l2 : Int32} {l3 : Int32} {s83 : Int32 × Mm} {x : ((Int32 × Mm) ⊕ (Mm))} (h : f_X11_countFits_L83 a0 l1 l2 l3 s83 = some x) : mm_P (sm (fun (q : Int32 × Mm) => q.2) (fun (q : Mm) => q) x) = mm_P ((fun (q : Int32 × Mm) => q.2) s83) := by
  have hk : mm_P (s83.2) = mm_P (s83.2) := rfl
  obtain ⟨x86, e86, h⟩ := bd h
  obtain ⟨x90, e90, h⟩ := bd h
  rcases ite_e h with ⟨_, h⟩ | ⟨_, h⟩
  · have h := Option.some.inj h
    subst h
    exact hk
  · obtain ⟨x95, e95, h⟩ := bd h
    obtain ⟨x111, e111, h⟩ := bd h
    obtain ⟨x113, e113, h⟩ := bd h
    obtain ⟨x117, e117, h⟩ := bd h
    obtain ⟨μ124, e124, h⟩ := bd h
    have hk := (kp_paI e124).trans hk
    obtain ⟨v125, e125, h⟩ := bd h
    have h := Option.some.inj h
    subst h
    exact hk
theorem p_X11_countFits_W83 {a0 : Nat} {l1 : Int32} {l2 : Int32} {l3 : Int32} {s83 : Int32 × Mm} {b : Mm} (h : whl (f_X11_countFits_L83 a0 l1 l2 l3) s83 = some b) : mm_P ((fun (q : Mm) => q) b) = mm_P ((fun (q : Int32 × Mm) => q.2) s83) :=
  whl_P (g := (fun (q : Int32 × Mm) => q.2)) (gb := (fun (q : Mm) => q)) (fun s x hx => p_X11_countFits_L83 hx) h
theorem p_X11_countFits_L70 {a0 : Nat} {l1 : Int32} {l2 : Int32} {s70 : Int32 × Mm} {x : ((Int32 × Mm) ⊕ (Mm))} (h : f_X11_countFits_L70 a0 l1 l2 s70 = some x) : mm_P (sm (fun (q : Int32 × Mm) => q.2) (fun (q : Mm) => q) x) = mm_P ((fun (q : Int32 × Mm) => q.2) s70) := by
  have hk : mm_P (s70.2) = mm_P (s70.2) := rfl
  obtain ⟨x72, e72, h⟩ := bd h
  obtain ⟨x76, e76, h⟩ := bd h
  rcases ite_e h with ⟨_, h⟩ | ⟨_, h⟩
  · have h := Option.some.inj h
    subst h
    exact hk
  · obtain ⟨b83, w83, h⟩ := bd h
    have hk := (p_X11_countFits_W83 w83).trans hk
    exact (p_X11_countFits_J131 h).trans hk
theorem p_X11_countFits_W70 {a0 : Nat} {l1 : Int32} {l2 : Int32} {s70 : Int32 × Mm} {b : Mm} (h : whl (f_X11_countFits_L70 a0 l1 l2) s70 = some b) : mm_P ((fun (q : Mm) => q) b) = mm_P ((fun (q : Int32 × Mm) => q.2) s70) :=
  whl_P (g := (fun (q : Int32 × Mm) => q.2)) (gb := (fun (q : Mm) => q)) (fun s x hx => p_X11_countFits_L70 hx) h
theorem p_X11_countFits_L49 {a0 : Nat} {l1 : Int32} {s49 : Int32 × Mm} {x : ((Int32 × Mm) ⊕ (Mm))} (h : f_X11_countFits_L49 a0 l1 s49 = some x) : mm_P (sm (fun (q : Int32 × Mm) => q.2) (fun (q : Mm) => q) x) = mm_P ((fun (q : Int32 × Mm) => q.2) s49) := by
  have hk : mm_P (s49.2) = mm_P (s49.2) := rfl
  rcases ite_e h with ⟨_, h⟩ | ⟨_, h⟩
  · have h := Option.some.inj h
    subst h
    exact hk
  · obtain ⟨x57, e57, h⟩ := bd h
    obtain ⟨x61, e61, h⟩ := bd h
    obtain ⟨x65, e65, h⟩ := bd h
    have hk := (p_X11_byDay e65).trans hk
    obtain ⟨b70, w70, h⟩ := bd h
    have hk := (p_X11_countFits_W70 w70).trans hk
    exact (p_X11_countFits_J137 h).trans hk
theorem p_X11_countFits_W49 {a0 : Nat} {l1 : Int32} {s49 : Int32 × Mm} {b : Mm} (h : whl (f_X11_countFits_L49 a0 l1) s49 = some b) : mm_P ((fun (q : Mm) => q) b) = mm_P ((fun (q : Int32 × Mm) => q.2) s49) :=
  whl_P (g := (fun (q : Int32 × Mm) => q.2)) (gb := (fun (q : Mm) => q)) (fun s x hx => p_X11_countFits_L49 hx) h
theorem p_X11_countFits_L24 {a0 : Nat} {s24 : Int32 × Mm} {x : ((Int32 × Mm) ⊕ (Mm))} (h : f_X11_countFits_L24 a0 s24 = some x) : mm_P (sm (fun (q : Int32 × Mm) => q.2) (fun (q : Mm) => q) x) = mm_P ((fun (q : Int32 × Mm) => q.2) s24) := by
  have hk : mm_P (s24.2) = mm_P (s24.2) := rfl
  obtain ⟨x26, e26, h⟩ := bd h
  rcases ite_e h with ⟨_, h⟩ | ⟨_, h⟩
  · have h := Option.some.inj h
    subst h
    exact hk
  · obtain ⟨x34, e34, h⟩ := bd h
    rcases ite_e h with ⟨_, h⟩ | ⟨_, h⟩
    · exact (p_X11_countFits_J156 h).trans hk
    · obtain ⟨x44, e44, h⟩ := bd h
      have hk := (p_X11_forget e44).trans hk
      obtain ⟨b49, w49, h⟩ := bd h
      have hk := (p_X11_countFits_W49 w49).trans hk
      exact (p_X11_countFits_J156 h).trans hk
theorem p_X11_countFits_W24 {a0 : Nat} {s24 : Int32 × Mm} {b : Mm} (h : whl (f_X11_countFits_L24 a0) s24 = some b) : mm_P ((fun (q : Mm) => q) b) = mm_P ((fun (q : Int32 × Mm) => q.2) s24) :=
  whl_P (g := (fun (q : Int32 × Mm) => q.2)) (gb := (fun (q : Mm) => q)) (fun s x hx => p_X11_countFits_L24 hx) h
theorem p_X11_countFits_J22 {a0 : Nat} {μ : Mm} {x : Mm} (h : f_X11_countFits_J22 a0 μ = some x) : mm_P ((fun (q : Mm) => q) x) = mm_P μ := by
  have hk : mm_P μ = mm_P μ := rfl
  obtain ⟨b24, w24, h⟩ := bd h
  have hk := (p_X11_countFits_W24 w24).trans hk
  have h := Option.some.inj h
  subst h
  exact hk
theorem p_X11_countFits_L2 {a0 : Nat} {s2 : Int32 × Mm} {x : ((Int32 × Mm) ⊕ (Mm))} (h : f_X11_countFits_L2 a0 s2 = some x) : mm_P (sm (fun (q : Int32 × Mm) => q.2) (fun (q : Mm) => q) x) = mm_P ((fun (q : Int32 × Mm) => q.2) s2) := by
  have hk : mm_P (s2.2) = mm_P (s2.2) := rfl
  rcases ite_e h with ⟨_, h⟩ | ⟨_, h⟩
  · have h := Option.some.inj h
    subst h
    exact hk
  · obtain ⟨x10, e10, h⟩ := bd h
    obtain ⟨μ15, e15, h⟩ := bd h
    have hk := (kp_paI e15).trans hk
    obtain ⟨v16, e16, h⟩ := bd h
    have h := Option.some.inj h
    subst h
    exact hk
theorem p_X11_countFits_W2 {a0 : Nat} {s2 : Int32 × Mm} {b : Mm} (h : whl (f_X11_countFits_L2 a0) s2 = some b) : mm_P ((fun (q : Mm) => q) b) = mm_P ((fun (q : Int32 × Mm) => q.2) s2) :=
  whl_P (g := (fun (q : Int32 × Mm) => q.2)) (gb := (fun (q : Mm) => q)) (fun s x hx => p_X11_countFits_L2 hx) h
theorem p_X11_countFits {a0 : Nat} {μ : Mm} {x : Mm} (h : f_X11_countFits a0 μ = some x) : mm_P ((fun (q : Mm) => q) x) = mm_P μ := by
  have hk : mm_P μ = mm_P μ := rfl
  obtain ⟨_, h⟩ := ite_p h
  obtain ⟨b2, w2, h⟩ := bd h
  have hk := (p_X11_countFits_W2 w2).trans hk
  exact (p_X11_countFits_J22 h).trans hk
theorem p_X11_fits_L60 {a0 : Nat} {l1 : Int64} {l3 : Int32} {l4 : Int32} {s60 : Int32 × Mm} {x : ((Int32 × Mm) ⊕ ((Mm) ⊕ (Mm)))} (h : f_X11_fits_L60 a0 l1 l3 l4 s60 = some x) : mm_P (sm (fun (q : Int32 × Mm) => q.2) (sm (fun (q : Mm) => q) (fun (q : Mm) => q)) x) = mm_P ((fun (q : Int32 × Mm) => q.2) s60) := by
  have hk : mm_P (s60.2) = mm_P (s60.2) := rfl
  rcases ite_e h with ⟨_, h⟩ | ⟨_, h⟩
  · have h := Option.some.inj h
    subst h
    exact hk
  · obtain ⟨x73, e73, h⟩ := bd h
    have hk := (p_X11_byDay e73).trans hk
    obtain ⟨x80, e80, h⟩ := bd h
    rcases ite_e h with ⟨_, h⟩ | ⟨_, h⟩
    · have h := Option.some.inj h
      subst h
      exact hk
    · obtain ⟨x94, e94, h⟩ := bd h
      have hk := (p_X11_byNight e94).trans hk
      obtain ⟨v97, e97, h⟩ := bd h
      have h := Option.some.inj h
      subst h
      exact hk
theorem p_X11_fits_W60 {a0 : Nat} {l1 : Int64} {l3 : Int32} {l4 : Int32} {s60 : Int32 × Mm} {b : (Mm) ⊕ (Mm)} (h : whl (f_X11_fits_L60 a0 l1 l3 l4) s60 = some b) : mm_P ((sm (fun (q : Mm) => q) (fun (q : Mm) => q)) b) = mm_P ((fun (q : Int32 × Mm) => q.2) s60) :=
  whl_P (g := (fun (q : Int32 × Mm) => q.2)) (gb := (sm (fun (q : Mm) => q) (fun (q : Mm) => q))) (fun s x hx => p_X11_fits_L60 hx) h
theorem p_X11_fits_J53 {a0 : Nat} {l1 : Int64} {l3 : Int32} {l4 : Int32} {μ : Mm} {x : (Int32 × Mm)} (h : f_X11_fits_J53 a0 l1 l3 l4 μ = some x) : mm_P ((fun (q : (Int32 × Mm)) => q.2) x) = mm_P μ := by
  have hk : mm_P μ = mm_P μ := rfl
  obtain ⟨x54, e54, h⟩ := bd h
  have hk := (p_X11_forget e54).trans hk
  obtain ⟨b60, w60, h⟩ := bd h
  have hk := (p_X11_fits_W60 w60).trans hk
  rcases b60 with b60 | b60
  · have h := Option.some.inj h
    subst h
    exact hk
  · have h := Option.some.inj h
    subst h
    exact hk
theorem p_X11_fits {a0 : Nat} {l1 : Int64} {l3 : Int32} {μ : Mm} {x : (Int32 × Mm)} (h : f_X11_fits a0 l1 l3 μ = some x) : mm_P ((fun (q : (Int32 × Mm)) => q.2) x) = mm_P μ := by
  have hk : mm_P μ = mm_P μ := rfl
  obtain ⟨_, h⟩ := ite_p h
  obtain ⟨b6, w6, h⟩ := bd h
  exact (p_X11_fits_J53 h).trans hk
theorem p_X11_findFits_J72 {a0 : Nat} {l1 : Int32} {l2 : Int32} {l3 : Int32} {μ : Mm} {x : ((Int32 × Int32 × Mm) ⊕ (Int32 × Mm))} (h : f_X11_findFits_J72 a0 l1 l2 l3 μ = some x) : mm_P ((sm (fun (q : Int32 × Int32 × Mm) => q.2.2) (fun (q : Int32 × Mm) => q.2)) x) = mm_P μ := by
  have hk : mm_P μ = mm_P μ := rfl
  obtain ⟨v72, e72, h⟩ := bd h
  have h := Option.some.inj h
  subst h
  exact hk
theorem p_X11_findFits_L26 {a0 : Nat} {l1 : Int32} {s26 : Int32 × Int32 × Mm} {x : ((Int32 × Int32 × Mm) ⊕ (Int32 × Mm))} (h : f_X11_findFits_L26 a0 l1 s26 = some x) : mm_P (sm (fun (q : Int32 × Int32 × Mm) => q.2.2) (fun (q : Int32 × Mm) => q.2) x) = mm_P ((fun (q : Int32 × Int32 × Mm) => q.2.2) s26) := by
  have hk : mm_P (s26.2.2) = mm_P (s26.2.2) := rfl
  obtain ⟨x28, e28, h⟩ := bd h
  rcases ite_e h with ⟨_, h⟩ | ⟨_, h⟩
  · have h := Option.some.inj h
    subst h
    exact hk
  · obtain ⟨x36, e36, h⟩ := bd h
    obtain ⟨x40, e40, h⟩ := bd h
    obtain ⟨x42, e42, h⟩ := bd h
    have hk := (p_X11_fits e42).trans hk
    rcases ite_e h with ⟨_, h⟩ | ⟨_, h⟩
    · exact (p_X11_findFits_J72 h).trans hk
    · obtain ⟨x52, e52, h⟩ := bd h
      obtain ⟨x60, e60, h⟩ := bd h
      obtain ⟨μ68, e68, h⟩ := bd h
      have hk := (kp_paL e68).trans hk
      obtain ⟨v69, e69, h⟩ := bd h
      exact (p_X11_findFits_J72 h).trans hk
theorem p_X11_findFits_W26 {a0 : Nat} {l1 : Int32} {s26 : Int32 × Int32 × Mm} {b : Int32 × Mm} (h : whl (f_X11_findFits_L26 a0 l1) s26 = some b) : mm_P ((fun (q : Int32 × Mm) => q.2) b) = mm_P ((fun (q : Int32 × Int32 × Mm) => q.2.2) s26) :=
  whl_P (g := (fun (q : Int32 × Int32 × Mm) => q.2.2)) (gb := (fun (q : Int32 × Mm) => q.2)) (fun s x hx => p_X11_findFits_L26 hx) h
theorem p_X11_findFits_J24 {a0 : Nat} {l1 : Int32} {l2 : Int32} {μ : Mm} {x : (Int32 × Mm)} (h : f_X11_findFits_J24 a0 l1 l2 μ = some x) : mm_P ((fun (q : (Int32 × Mm)) => q.2) x) = mm_P μ := by
  have hk : mm_P μ = mm_P μ := rfl
  obtain ⟨b26, w26, h⟩ := bd h
  have hk := (p_X11_findFits_W26 w26).trans hk
  have h := Option.some.inj h
  subst h
  exact hk
theorem p_X11_findFits_L4 {a0 : Nat} {l1 : Int32} {l2 : Int32} {s4 : Int32 × Mm} {x : ((Int32 × Mm) ⊕ (Mm))} (h : f_X11_findFits_L4 a0 l1 l2 s4 = some x) : mm_P (sm (fun (q : Int32 × Mm) => q.2) (fun (q : Mm) => q) x) = mm_P ((fun (q : Int32 × Mm) => q.2) s4) := by
  have hk : mm_P (s4.2) = mm_P (s4.2) := rfl
  rcases ite_e h with ⟨_, h⟩ | ⟨_, h⟩
  · have h := Option.some.inj h
    subst h
    exact hk
  · obtain ⟨x12, e12, h⟩ := bd h
    obtain ⟨μ17, e17, h⟩ := bd h
    have hk := (kp_paL e17).trans hk
    obtain ⟨v18, e18, h⟩ := bd h
    have h := Option.some.inj h
    subst h
    exact hk
theorem p_X11_findFits_W4 {a0 : Nat} {l1 : Int32} {l2 : Int32} {s4 : Int32 × Mm} {b : Mm} (h : whl (f_X11_findFits_L4 a0 l1 l2) s4 = some b) : mm_P ((fun (q : Mm) => q) b) = mm_P ((fun (q : Int32 × Mm) => q.2) s4) :=
  whl_P (g := (fun (q : Int32 × Mm) => q.2)) (gb := (fun (q : Mm) => q)) (fun s x hx => p_X11_findFits_L4 hx) h
theorem p_X11_findFits {a0 : Nat} {l1 : Int32} {μ : Mm} {x : (Int32 × Mm)} (h : f_X11_findFits a0 l1 μ = some x) : mm_P ((fun (q : (Int32 × Mm)) => q.2) x) = mm_P μ := by
  have hk : mm_P μ = mm_P μ := rfl
  obtain ⟨_, h⟩ := ite_p h
  obtain ⟨b4, w4, h⟩ := bd h
  have hk := (p_X11_findFits_W4 w4).trans hk
  exact (p_X11_findFits_J24 h).trans hk
theorem p_X11_ask_J154 {l1 : Int32} {l4 : Int32} {μ : Mm} {x : (Int32 × Mm)} (h : f_X11_ask_J154 l1 l4 μ = some x) : mm_P ((fun (q : (Int32 × Mm)) => q.2) x) = mm_P μ := by
  have hk : mm_P μ = mm_P μ := rfl
  rcases ite_e h with ⟨_, h⟩ | ⟨_, h⟩
  · have h := Option.some.inj h
    subst h
    exact hk
  · rcases ite_e h with ⟨_, h⟩ | ⟨_, h⟩
    · have h := Option.some.inj h
      subst h
      exact hk
    · rcases ite_e h with ⟨_, h⟩ | ⟨_, h⟩
      · have h := Option.some.inj h
        subst h
        exact hk
      · have h := Option.some.inj h
        subst h
        exact hk
theorem p_X11_ask {a0 : Nat} {l1 : Int32} {μ : Mm} {x : (Int32 × Mm)} (h : f_X11_ask a0 l1 μ = some x) : mm_P ((fun (q : (Int32 × Mm)) => q.2) x) = mm_P μ := by
  have hk : mm_P μ = mm_P μ := rfl
  obtain ⟨_, h⟩ := ite_p h
  obtain ⟨x3, e3, h⟩ := bd h
  rcases ite_e h with ⟨_, h⟩ | ⟨_, h⟩
  · have h := Option.some.inj h
    subst h
    exact hk
  · obtain ⟨x16, e16, h⟩ := bd h
    have hk := (p_X11_findFits e16).trans hk
    obtain ⟨x21, e21, h⟩ := bd h
    have hk := (p_X11_countFits e21).trans hk
    obtain ⟨b32, w32, h⟩ := bd h
    exact (p_X11_ask_J154 h).trans hk
theorem p_X11_begin__L33 {a0 : Nat} {s33 : Int32 × Mm} {x : ((Int32 × Mm) ⊕ (Mm))} (h : f_X11_begin__L33 a0 s33 = some x) : mm_P (sm (fun (q : Int32 × Mm) => q.2) (fun (q : Mm) => q) x) = mm_P ((fun (q : Int32 × Mm) => q.2) s33) := by
  have hk : mm_P (s33.2) = mm_P (s33.2) := rfl
  rcases ite_e h with ⟨_, h⟩ | ⟨_, h⟩
  · have h := Option.some.inj h
    subst h
    exact hk
  · obtain ⟨x40, e40, h⟩ := bd h
    obtain ⟨μ45, e45, h⟩ := bd h
    have hk := (kp_paI e45).trans hk
    obtain ⟨v46, e46, h⟩ := bd h
    have h := Option.some.inj h
    subst h
    exact hk
theorem p_X11_begin__W33 {a0 : Nat} {s33 : Int32 × Mm} {b : Mm} (h : whl (f_X11_begin__L33 a0) s33 = some b) : mm_P ((fun (q : Mm) => q) b) = mm_P ((fun (q : Int32 × Mm) => q.2) s33) :=
  whl_P (g := (fun (q : Int32 × Mm) => q.2)) (gb := (fun (q : Mm) => q)) (fun s x hx => p_X11_begin__L33 hx) h
theorem p_X11_begin_ {a0 : Nat} {l1 : Int32} {μ : Mm} {x : (Int32 × Mm)} (h : f_X11_begin_ a0 l1 μ = some x) : mm_P ((fun (q : (Int32 × Mm)) => q.2) x) = mm_P μ := by
  have hk : mm_P μ = mm_P μ := rfl
  obtain ⟨_, h⟩ := ite_p h
  rcases ite_e h with ⟨_, h⟩ | ⟨_, h⟩
  · obtain ⟨μ10, e10, h⟩ := bd h
    have hk := (kp_pfL e10).trans hk
    obtain ⟨μ15, e15, h⟩ := bd h
    have hk := (kp_pfZ e15).trans hk
    obtain ⟨x20, e20, h⟩ := bd h
    obtain ⟨μ23, e23, h⟩ := bd h
    have hk := (kp_pfI e23).trans hk
    obtain ⟨μ28, e28, h⟩ := bd h
    have hk := (kp_pfI e28).trans hk
    obtain ⟨b33, w33, h⟩ := bd h
    have hk := (p_X11_begin__W33 w33).trans hk
    have h := Option.some.inj h
    subst h
    exact hk
  · have h := Option.some.inj h
    subst h
    exact hk
theorem p_X11_live_J42 {a0 : Nat} {l1 : Int64} {l3 : Int32} {l4 : Int32} {l5 : Int32} {l6 : Int32} {μ : Mm} {x : ((Int32 × Mm) ⊕ (Mm))} (h : f_X11_live_J42 a0 l1 l3 l4 l5 l6 μ = some x) : mm_P ((sm (fun (q : Int32 × Mm) => q.2) (fun (q : Mm) => q)) x) = mm_P μ := by
  have hk : mm_P μ = mm_P μ := rfl
  obtain ⟨v42, e42, h⟩ := bd h
  have h := Option.some.inj h
  subst h
  exact hk
theorem p_X11_live_J33 {a0 : Nat} {l1 : Int64} {l3 : Int32} {l4 : Int32} {l5 : Int32} {l6 : Int32} {μ : Mm} {x : ((Int32 × Mm) ⊕ (Mm))} (h : f_X11_live_J33 a0 l1 l3 l4 l5 l6 μ = some x) : mm_P ((sm (fun (q : Int32 × Mm) => q.2) (fun (q : Mm) => q)) x) = mm_P μ := by
  have hk : mm_P μ = mm_P μ := rfl
  obtain ⟨x39, e39, h⟩ := bd h
  have hk := (p_X11_byNight e39).trans hk
  exact (p_X11_live_J42 h).trans hk
theorem p_X11_live_L7 {a0 : Nat} {l1 : Int64} {l3 : Int32} {l4 : Int32} {l5 : Int32} {s7 : Int32 × Mm} {x : ((Int32 × Mm) ⊕ (Mm))} (h : f_X11_live_L7 a0 l1 l3 l4 l5 s7 = some x) : mm_P (sm (fun (q : Int32 × Mm) => q.2) (fun (q : Mm) => q) x) = mm_P ((fun (q : Int32 × Mm) => q.2) s7) := by
  have hk : mm_P (s7.2) = mm_P (s7.2) := rfl
  rcases ite_e h with ⟨_, h⟩ | ⟨_, h⟩
  · have h := Option.some.inj h
    subst h
    exact hk
  · obtain ⟨x19, e19, h⟩ := bd h
    have hk := (p_X11_byDay e19).trans hk
    rcases ite_e h with ⟨_, h⟩ | ⟨_, h⟩
    · exact (p_X11_live_J33 h).trans hk
    · rcases ite_e h with ⟨_, h⟩ | ⟨_, h⟩
      · exact (p_X11_live_J42 h).trans hk
      · exact (p_X11_live_J33 h).trans hk
theorem p_X11_live_W7 {a0 : Nat} {l1 : Int64} {l3 : Int32} {l4 : Int32} {l5 : Int32} {s7 : Int32 × Mm} {b : Mm} (h : whl (f_X11_live_L7 a0 l1 l3 l4 l5) s7 = some b) : mm_P ((fun (q : Mm) => q) b) = mm_P ((fun (q : Int32 × Mm) => q.2) s7) :=
  whl_P (g := (fun (q : Int32 × Mm) => q.2)) (gb := (fun (q : Mm) => q)) (fun s x hx => p_X11_live_L7 hx) h
theorem p_X11_live {a0 : Nat} {l1 : Int64} {l3 : Int32} {l4 : Int32} {l5 : Int32} {μ : Mm} {x : Mm} (h : f_X11_live a0 l1 l3 l4 l5 μ = some x) : mm_P ((fun (q : Mm) => q) x) = mm_P μ := by
  have hk : mm_P μ = mm_P μ := rfl
  obtain ⟨_, h⟩ := ite_p h
  obtain ⟨x1, e1, h⟩ := bd h
  have hk := (p_X11_forget e1).trans hk
  obtain ⟨b7, w7, h⟩ := bd h
  have hk := (p_X11_live_W7 w7).trans hk
  have h := Option.some.inj h
  subst h
  exact hk
theorem p_X11_comes_ {a0 : Nat} {l1 : Int32} {l2 : Int32} {l3 : Int32} {l4 : Int32} {μ : Mm} {x : (Int32 × Mm)} (h : f_X11_comes_ a0 l1 l2 l3 l4 μ = some x) : mm_P ((fun (q : (Int32 × Mm)) => q.2) x) = mm_P μ := by
  have hk : mm_P μ = mm_P μ := rfl
  obtain ⟨_, h⟩ := ite_p h
  obtain ⟨x2, e2, h⟩ := bd h
  rcases ite_e h with ⟨_, h⟩ | ⟨_, h⟩
  · have h := Option.some.inj h
    subst h
    exact hk
  · obtain ⟨x10, e10, h⟩ := bd h
    rcases ite_e h with ⟨_, h⟩ | ⟨_, h⟩
    · have h := Option.some.inj h
      subst h
      exact hk
    · obtain ⟨x17, e17, h⟩ := bd h
      rcases ite_e h with ⟨_, h⟩ | ⟨_, h⟩
      · have h := Option.some.inj h
        subst h
        exact hk
      · obtain ⟨x27, e27, h⟩ := bd h
        rcases ite_e h with ⟨_, h⟩ | ⟨_, h⟩
        · have h := Option.some.inj h
          subst h
          exact hk
        · obtain ⟨μ38, e38, h⟩ := bd h
          have hk := (kp_pfI e38).trans hk
          obtain ⟨μ43, e43, h⟩ := bd h
          have hk := (kp_pfI e43).trans hk
          obtain ⟨x48, e48, h⟩ := bd h
          obtain ⟨x52, e52, h⟩ := bd h
          obtain ⟨x55, e55, h⟩ := bd h
          obtain ⟨x60, e60, h⟩ := bd h
          have hk := (p_X11_live e60).trans hk
          rcases ite_e h with ⟨_, h⟩ | ⟨_, h⟩
          · obtain ⟨x69, e69, h⟩ := bd h
            have h := Option.some.inj h
            subst h
            exact hk
          · rcases ite_e h with ⟨_, h⟩ | ⟨_, h⟩
            · obtain ⟨x82, e82, h⟩ := bd h
              have h := Option.some.inj h
              subst h
              exact hk
            · obtain ⟨x89, e89, h⟩ := bd h
              have h := Option.some.inj h
              subst h
              exact hk
theorem p_X11_end {a0 : Nat} {l1 : Int32} {μ : Mm} {x : (Int32 × Mm)} (h : f_X11_end a0 l1 μ = some x) : mm_P ((fun (q : (Int32 × Mm)) => q.2) x) = mm_P μ := by
  have hk : mm_P μ = mm_P μ := rfl
  obtain ⟨_, h⟩ := ite_p h
  rcases ite_e h with ⟨_, h⟩ | ⟨_, h⟩
  · have h := Option.some.inj h
    subst h
    exact hk
  · obtain ⟨x6, e6, h⟩ := bd h
    rcases ite_e h with ⟨_, h⟩ | ⟨_, h⟩
    · obtain ⟨μ16, e16, h⟩ := bd h
      have hk := (kp_pfI e16).trans hk
      have h := Option.some.inj h
      subst h
      exact hk
    · have h := Option.some.inj h
      subst h
      exact hk
theorem p_X11_feed_J115 {a0 : Nat} {μ : Mm} {x : (Int32 × Mm)} (h : f_X11_feed_J115 a0 μ = some x) : mm_P ((fun (q : (Int32 × Mm)) => q.2) x) = mm_P μ := by
  have hk : mm_P μ = mm_P μ := rfl
  obtain ⟨x116, e116, h⟩ := bd h
  have h := Option.some.inj h
  subst h
  exact hk
theorem p_X11_feed_J109 {a0 : Nat} {l1 : Int32} {l2 : Int32} {l3 : Int32} {l4 : Int32} {l5 : Int32} {l6 : Int32} {μ : Mm} {x : ((Int32 × Mm) ⊕ (Mm))} (h : f_X11_feed_J109 a0 l1 l2 l3 l4 l5 l6 μ = some x) : mm_P ((sm (fun (q : Int32 × Mm) => q.2) (fun (q : Mm) => q)) x) = mm_P μ := by
  have hk : mm_P μ = mm_P μ := rfl
  obtain ⟨v109, e109, h⟩ := bd h
  have h := Option.some.inj h
  subst h
  exact hk
theorem p_X11_feed_L73 {a0 : Nat} {l1 : Int32} {l2 : Int32} {l3 : Int32} {l4 : Int32} {l5 : Int32} {l6 : Int32} {l7 : Int32} {s73 : Int32 × Mm} {x : ((Int32 × Mm) ⊕ (Mm))} (h : f_X11_feed_L73 a0 l1 l2 l3 l4 l5 l6 l7 s73 = some x) : mm_P (sm (fun (q : Int32 × Mm) => q.2) (fun (q : Mm) => q) x) = mm_P ((fun (q : Int32 × Mm) => q.2) s73) := by
  have hk : mm_P (s73.2) = mm_P (s73.2) := rfl
  rcases ite_e h with ⟨_, h⟩ | ⟨_, h⟩
  · have h := Option.some.inj h
    subst h
    exact hk
  · obtain ⟨x79, e79, h⟩ := bd h
    obtain ⟨x83, e83, h⟩ := bd h
    obtain ⟨μ92, e92, h⟩ := bd h
    have hk := (kp_paB e92).trans hk
    obtain ⟨x95, e95, h⟩ := bd h
    obtain ⟨μ100, e100, h⟩ := bd h
    have hk := (kp_pfI e100).trans hk
    obtain ⟨v103, e103, h⟩ := bd h
    have h := Option.some.inj h
    subst h
    exact hk
theorem p_X11_feed_W73 {a0 : Nat} {l1 : Int32} {l2 : Int32} {l3 : Int32} {l4 : Int32} {l5 : Int32} {l6 : Int32} {l7 : Int32} {s73 : Int32 × Mm} {b : Mm} (h : whl (f_X11_feed_L73 a0 l1 l2 l3 l4 l5 l6 l7) s73 = some b) : mm_P ((fun (q : Mm) => q) b) = mm_P ((fun (q : Int32 × Mm) => q.2) s73) :=
  whl_P (g := (fun (q : Int32 × Mm) => q.2)) (gb := (fun (q : Mm) => q)) (fun s x hx => p_X11_feed_L73 hx) h
theorem p_X11_feed_J67 {a0 : Nat} {l1 : Int32} {l2 : Int32} {l3 : Int32} {l4 : Int32} {l5 : Int32} {l6 : Int32} {k0 : Int32} {μ : Mm} {x : ((Int32 × Mm) ⊕ (Mm))} (h : f_X11_feed_J67 a0 l1 l2 l3 l4 l5 l6 k0 μ = some x) : mm_P ((sm (fun (q : Int32 × Mm) => q.2) (fun (q : Mm) => q)) x) = mm_P μ := by
  have hk : mm_P μ = mm_P μ := rfl
  obtain ⟨b73, w73, h⟩ := bd h
  have hk := (p_X11_feed_W73 w73).trans hk
  exact (p_X11_feed_J109 h).trans hk
theorem p_X11_feed_L19 {a0 : Nat} {l1 : Int32} {l2 : Int32} {l3 : Int32} {l4 : Int32} {l5 : Int32} {s19 : Int32 × Mm} {x : ((Int32 × Mm) ⊕ (Mm))} (h : f_X11_feed_L19 a0 l1 l2 l3 l4 l5 s19 = some x) : mm_P (sm (fun (q : Int32 × Mm) => q.2) (fun (q : Mm) => q) x) = mm_P ((fun (q : Int32 × Mm) => q.2) s19) := by
  have hk : mm_P (s19.2) = mm_P (s19.2) := rfl
  rcases ite_e h with ⟨_, h⟩ | ⟨_, h⟩
  · have h := Option.some.inj h
    subst h
    exact hk
  · rcases ite_e h with ⟨_, h⟩ | ⟨_, h⟩
    · exact (p_X11_feed_J67 h).trans hk
    · rcases ite_e h with ⟨_, h⟩ | ⟨_, h⟩
      · exact (p_X11_feed_J67 h).trans hk
      · rcases ite_e h with ⟨_, h⟩ | ⟨_, h⟩
        · exact (p_X11_feed_J67 h).trans hk
        · rcases ite_e h with ⟨_, h⟩ | ⟨_, h⟩
          · exact (p_X11_feed_J67 h).trans hk
          · exact (p_X11_feed_J67 h).trans hk
theorem p_X11_feed_W19 {a0 : Nat} {l1 : Int32} {l2 : Int32} {l3 : Int32} {l4 : Int32} {l5 : Int32} {s19 : Int32 × Mm} {b : Mm} (h : whl (f_X11_feed_L19 a0 l1 l2 l3 l4 l5) s19 = some b) : mm_P ((fun (q : Mm) => q) b) = mm_P ((fun (q : Int32 × Mm) => q.2) s19) :=
  whl_P (g := (fun (q : Int32 × Mm) => q.2)) (gb := (fun (q : Mm) => q)) (fun s x hx => p_X11_feed_L19 hx) h
theorem p_X11_feed {a0 : Nat} {l1 : Int32} {l2 : Int32} {l3 : Int32} {l4 : Int32} {l5 : Int32} {μ : Mm} {x : (Int32 × Mm)} (h : f_X11_feed a0 l1 l2 l3 l4 l5 μ = some x) : mm_P ((fun (q : (Int32 × Mm)) => q.2) x) = mm_P μ := by
  have hk : mm_P μ = mm_P μ := rfl
  obtain ⟨_, h⟩ := ite_p h
  obtain ⟨x1, e1, h⟩ := bd h
  rcases ite_e h with ⟨_, h⟩ | ⟨_, h⟩
  · obtain ⟨b19, w19, h⟩ := bd h
    have hk := (p_X11_feed_W19 w19).trans hk
    exact (p_X11_feed_J115 h).trans hk
  · have h := Option.some.inj h
    subst h
    exact hk
theorem p_X11_fit {a0 : Nat} {l1 : Int32} {l2 : Int32} {μ : Mm} {x : (Int32 × Mm)} (h : f_X11_fit a0 l1 l2 μ = some x) : mm_P ((fun (q : (Int32 × Mm)) => q.2) x) = mm_P μ := by
  have hk : mm_P μ = mm_P μ := rfl
  obtain ⟨_, h⟩ := ite_p h
  obtain ⟨x1, e1, h⟩ := bd h
  rcases ite_e h with ⟨_, h⟩ | ⟨_, h⟩
  · have h := Option.some.inj h
    subst h
    exact hk
  · obtain ⟨x10, e10, h⟩ := bd h
    rcases ite_e h with ⟨_, h⟩ | ⟨_, h⟩
    · have h := Option.some.inj h
      subst h
      exact hk
    · obtain ⟨x21, e21, h⟩ := bd h
      have hk := (p_X11_findFits e21).trans hk
      rcases ite_e h with ⟨_, h⟩ | ⟨_, h⟩
      · have h := Option.some.inj h
        subst h
        exact hk
      · obtain ⟨b37, w37, h⟩ := bd h
        have h := Option.some.inj h
        subst h
        exact hk
theorem p_X11_draw {a0 : Nat} {l1 : Int32} {μ : Mm} {x : (Int32 × Mm)} (h : f_X11_draw a0 l1 μ = some x) : mm_P ((fun (q : (Int32 × Mm)) => q.2) x) = mm_P μ := by
  have hk : mm_P μ = mm_P μ := rfl
  obtain ⟨_, h⟩ := ite_p h
  obtain ⟨x5, e5, h⟩ := bd h
  obtain ⟨μ17, e17, h⟩ := bd h
  have hk := (kp_pfL e17).trans hk
  obtain ⟨x21, e21, h⟩ := bd h
  obtain ⟨_, h⟩ := ite_n h
  have h := Option.some.inj h
  subst h
  exact hk
theorem p_X11_runDay {a0 : Nat} {μ : Mm} {x : Mm} (h : f_X11_runDay a0 μ = some x) : mm_P ((fun (q : Mm) => q) x) = mm_P μ := by
  have hk : mm_P μ = mm_P μ := rfl
  obtain ⟨_, h⟩ := ite_p h
  obtain ⟨x1, e1, h⟩ := bd h
  obtain ⟨x5, e5, h⟩ := bd h
  obtain ⟨x9, e9, h⟩ := bd h
  obtain ⟨_, h⟩ := ite_n h
  obtain ⟨v11, e11, h⟩ := bd h
  obtain ⟨x14, e14, h⟩ := bd h
  obtain ⟨x18, e18, h⟩ := bd h
  obtain ⟨x21, e21, h⟩ := bd h
  obtain ⟨x25, e25, h⟩ := bd h
  have hk := (p_X11_byDay e25).trans hk
  obtain ⟨x30, e30, h⟩ := bd h
  obtain ⟨x34, e34, h⟩ := bd h
  obtain ⟨x37, e37, h⟩ := bd h
  obtain ⟨x41, e41, h⟩ := bd h
  have hk := (p_X11_byNight e41).trans hk
  obtain ⟨x46, e46, h⟩ := bd h
  obtain ⟨μ51, e51, h⟩ := bd h
  have hk := (kp_pfI e51).trans hk
  obtain ⟨x58, e58, h⟩ := bd h
  obtain ⟨x62, e62, h⟩ := bd h
  rcases ite_e h with ⟨_, h⟩ | ⟨_, h⟩
  · obtain ⟨x69, e69, h⟩ := bd h
    obtain ⟨x72, e72, h⟩ := bd h
    have hk := (p_X11_draw e72).trans hk
    obtain ⟨μ75, e75, h⟩ := bd h
    have hk := (kp_pfI e75).trans hk
    have h := Option.some.inj h
    subst h
    exact hk
  · have h := Option.some.inj h
    subst h
    exact hk
theorem p_X11_go_J93 {a0 : Nat} {μ : Mm} {x : (Int32 × Mm)} (h : f_X11_go_J93 a0 μ = some x) : mm_P ((fun (q : (Int32 × Mm)) => q.2) x) = mm_P μ := by
  have hk : mm_P μ = mm_P μ := rfl
  obtain ⟨x94, e94, h⟩ := bd h
  have h := Option.some.inj h
  subst h
  exact hk
theorem p_X11_go_L69 {a0 : Nat} {s69 : Int32 × Mm} {x : ((Int32 × Mm) ⊕ (Mm))} (h : f_X11_go_L69 a0 s69 = some x) : mm_P (sm (fun (q : Int32 × Mm) => q.2) (fun (q : Mm) => q) x) = mm_P ((fun (q : Int32 × Mm) => q.2) s69) := by
  have hk : mm_P (s69.2) = mm_P (s69.2) := rfl
  rcases ite_e h with ⟨_, h⟩ | ⟨_, h⟩
  · have h := Option.some.inj h
    subst h
    exact hk
  · obtain ⟨x76, e76, h⟩ := bd h
    obtain ⟨x81, e81, h⟩ := bd h
    obtain ⟨x85, e85, h⟩ := bd h
    obtain ⟨μ86, e86, h⟩ := bd h
    have hk := (kp_paI e86).trans hk
    obtain ⟨v87, e87, h⟩ := bd h
    have h := Option.some.inj h
    subst h
    exact hk
theorem p_X11_go_W69 {a0 : Nat} {s69 : Int32 × Mm} {b : Mm} (h : whl (f_X11_go_L69 a0) s69 = some b) : mm_P ((fun (q : Mm) => q) b) = mm_P ((fun (q : Int32 × Mm) => q.2) s69) :=
  whl_P (g := (fun (q : Int32 × Mm) => q.2)) (gb := (fun (q : Mm) => q)) (fun s x hx => p_X11_go_L69 hx) h
theorem p_X11_go_J67 {a0 : Nat} {μ : Mm} {x : (Int32 × Mm)} (h : f_X11_go_J67 a0 μ = some x) : mm_P ((fun (q : (Int32 × Mm)) => q.2) x) = mm_P μ := by
  have hk : mm_P μ = mm_P μ := rfl
  obtain ⟨b69, w69, h⟩ := bd h
  have hk := (p_X11_go_W69 w69).trans hk
  exact (p_X11_go_J93 h).trans hk
theorem p_X11_go_L52 {a0 : Nat} {l1 : Int32} {s52 : Int32 × Mm} {x : ((Int32 × Mm) ⊕ (Mm))} (h : f_X11_go_L52 a0 l1 s52 = some x) : mm_P (sm (fun (q : Int32 × Mm) => q.2) (fun (q : Mm) => q) x) = mm_P ((fun (q : Int32 × Mm) => q.2) s52) := by
  have hk : mm_P (s52.2) = mm_P (s52.2) := rfl
  rcases ite_e h with ⟨_, h⟩ | ⟨_, h⟩
  · have h := Option.some.inj h
    subst h
    exact hk
  · obtain ⟨x58, e58, h⟩ := bd h
    have hk := (p_X11_runDay e58).trans hk
    obtain ⟨v61, e61, h⟩ := bd h
    have h := Option.some.inj h
    subst h
    exact hk
theorem p_X11_go_W52 {a0 : Nat} {l1 : Int32} {s52 : Int32 × Mm} {b : Mm} (h : whl (f_X11_go_L52 a0 l1) s52 = some b) : mm_P ((fun (q : Mm) => q) b) = mm_P ((fun (q : Int32 × Mm) => q.2) s52) :=
  whl_P (g := (fun (q : Int32 × Mm) => q.2)) (gb := (fun (q : Mm) => q)) (fun s x hx => p_X11_go_L52 hx) h
theorem p_X11_go_J50 {a0 : Nat} {l1 : Int32} {μ : Mm} {x : (Int32 × Mm)} (h : f_X11_go_J50 a0 l1 μ = some x) : mm_P ((fun (q : (Int32 × Mm)) => q.2) x) = mm_P μ := by
  have hk : mm_P μ = mm_P μ := rfl
  obtain ⟨b52, w52, h⟩ := bd h
  have hk := (p_X11_go_W52 w52).trans hk
  exact (p_X11_go_J67 h).trans hk
theorem p_X11_go_L26 {a0 : Nat} {l1 : Int32} {s26 : Int32 × Mm} {x : ((Int32 × Mm) ⊕ (Mm))} (h : f_X11_go_L26 a0 l1 s26 = some x) : mm_P (sm (fun (q : Int32 × Mm) => q.2) (fun (q : Mm) => q) x) = mm_P ((fun (q : Int32 × Mm) => q.2) s26) := by
  have hk : mm_P (s26.2) = mm_P (s26.2) := rfl
  rcases ite_e h with ⟨_, h⟩ | ⟨_, h⟩
  · have h := Option.some.inj h
    subst h
    exact hk
  · obtain ⟨x33, e33, h⟩ := bd h
    obtain ⟨x38, e38, h⟩ := bd h
    obtain ⟨x42, e42, h⟩ := bd h
    obtain ⟨μ43, e43, h⟩ := bd h
    have hk := (kp_paI e43).trans hk
    obtain ⟨v44, e44, h⟩ := bd h
    have h := Option.some.inj h
    subst h
    exact hk
theorem p_X11_go_W26 {a0 : Nat} {l1 : Int32} {s26 : Int32 × Mm} {b : Mm} (h : whl (f_X11_go_L26 a0 l1) s26 = some b) : mm_P ((fun (q : Mm) => q) b) = mm_P ((fun (q : Int32 × Mm) => q.2) s26) :=
  whl_P (g := (fun (q : Int32 × Mm) => q.2)) (gb := (fun (q : Mm) => q)) (fun s x hx => p_X11_go_L26 hx) h
theorem p_X11_go {a0 : Nat} {l1 : Int32} {μ : Mm} {x : (Int32 × Mm)} (h : f_X11_go a0 l1 μ = some x) : mm_P ((fun (q : (Int32 × Mm)) => q.2) x) = mm_P μ := by
  have hk : mm_P μ = mm_P μ := rfl
  obtain ⟨_, h⟩ := ite_p h
  obtain ⟨x5, e5, h⟩ := bd h
  rcases ite_e h with ⟨_, h⟩ | ⟨_, h⟩
  · have h := Option.some.inj h
    subst h
    exact hk
  · obtain ⟨x15, e15, h⟩ := bd h
    rcases ite_e h with ⟨_, h⟩ | ⟨_, h⟩
    · have h := Option.some.inj h
      subst h
      exact hk
    · obtain ⟨b26, w26, h⟩ := bd h
      have hk := (p_X11_go_W26 w26).trans hk
      exact (p_X11_go_J50 h).trans hk
theorem p_X11_begin_J67 {a0 : Nat} {μ : Mm} {x : Mm} (h : f_X11_begin_J67 a0 μ = some x) : mm_P ((fun (q : Mm) => q) x) = mm_P μ := by
  have hk : mm_P μ = mm_P μ := rfl
  obtain ⟨μ69, e69, h⟩ := bd h
  have hk := (kp_pfI e69).trans hk
  have h := Option.some.inj h
  subst h
  exact hk
theorem p_X11_begin_L35 {a0 : Nat} {s35 : Int32 × Mm} {x : ((Int32 × Mm) ⊕ (Mm))} (h : f_X11_begin_L35 a0 s35 = some x) : mm_P (sm (fun (q : Int32 × Mm) => q.2) (fun (q : Mm) => q) x) = mm_P ((fun (q : Int32 × Mm) => q.2) s35) := by
  have hk : mm_P (s35.2) = mm_P (s35.2) := rfl
  rcases ite_e h with ⟨_, h⟩ | ⟨_, h⟩
  · have h := Option.some.inj h
    subst h
    exact hk
  · obtain ⟨x42, e42, h⟩ := bd h
    obtain ⟨μ50, e50, h⟩ := bd h
    have hk := (kp_paI e50).trans hk
    obtain ⟨x52, e52, h⟩ := bd h
    obtain ⟨μ60, e60, h⟩ := bd h
    have hk := (kp_paI e60).trans hk
    obtain ⟨v61, e61, h⟩ := bd h
    have h := Option.some.inj h
    subst h
    exact hk
theorem p_X11_begin_W35 {a0 : Nat} {s35 : Int32 × Mm} {b : Mm} (h : whl (f_X11_begin_L35 a0) s35 = some b) : mm_P ((fun (q : Mm) => q) b) = mm_P ((fun (q : Int32 × Mm) => q.2) s35) :=
  whl_P (g := (fun (q : Int32 × Mm) => q.2)) (gb := (fun (q : Mm) => q)) (fun s x hx => p_X11_begin_L35 hx) h
theorem p_X11_begin_J24 {a0 : Nat} {μ : Mm} {x : Mm} (h : f_X11_begin_J24 a0 μ = some x) : mm_P ((fun (q : Mm) => q) x) = mm_P μ := by
  have hk : mm_P μ = mm_P μ := rfl
  obtain ⟨x25, e25, h⟩ := bd h
  obtain ⟨μ32, e32, h⟩ := bd h
  have hk := (kp_paI e32).trans hk
  obtain ⟨b35, w35, h⟩ := bd h
  have hk := (p_X11_begin_W35 w35).trans hk
  exact (p_X11_begin_J67 h).trans hk
theorem p_X11_begin_L2 {a0 : Nat} {s2 : Int32 × Mm} {x : ((Int32 × Mm) ⊕ (Mm))} (h : f_X11_begin_L2 a0 s2 = some x) : mm_P (sm (fun (q : Int32 × Mm) => q.2) (fun (q : Mm) => q) x) = mm_P ((fun (q : Int32 × Mm) => q.2) s2) := by
  have hk : mm_P (s2.2) = mm_P (s2.2) := rfl
  rcases ite_e h with ⟨_, h⟩ | ⟨_, h⟩
  · have h := Option.some.inj h
    subst h
    exact hk
  · obtain ⟨x9, e9, h⟩ := bd h
    obtain ⟨μ17, e17, h⟩ := bd h
    have hk := (kp_paI e17).trans hk
    obtain ⟨v18, e18, h⟩ := bd h
    have h := Option.some.inj h
    subst h
    exact hk
theorem p_X11_begin_W2 {a0 : Nat} {s2 : Int32 × Mm} {b : Mm} (h : whl (f_X11_begin_L2 a0) s2 = some b) : mm_P ((fun (q : Mm) => q) b) = mm_P ((fun (q : Int32 × Mm) => q.2) s2) :=
  whl_P (g := (fun (q : Int32 × Mm) => q.2)) (gb := (fun (q : Mm) => q)) (fun s x hx => p_X11_begin_L2 hx) h
theorem p_X11_begin {a0 : Nat} {μ : Mm} {x : Mm} (h : f_X11_begin a0 μ = some x) : mm_P ((fun (q : Mm) => q) x) = mm_P μ := by
  have hk : mm_P μ = mm_P μ := rfl
  obtain ⟨_, h⟩ := ite_p h
  obtain ⟨b2, w2, h⟩ := bd h
  have hk := (p_X11_begin_W2 w2).trans hk
  exact (p_X11_begin_J24 h).trans hk
theorem p_X11_comes_L2 {l0 : Nat} {l1 : Int32} {s2 : Int32 × Mm} {x : ((Int32 × Mm) ⊕ (Mm))} (h : f_X11_comes_L2 l0 l1 s2 = some x) : mm_P (sm (fun (q : Int32 × Mm) => q.2) (fun (q : Mm) => q) x) = mm_P ((fun (q : Int32 × Mm) => q.2) s2) := by
  have hk : mm_P (s2.2) = mm_P (s2.2) := rfl
  rcases ite_e h with ⟨_, h⟩ | ⟨_, h⟩
  · have h := Option.some.inj h
    subst h
    exact hk
  · obtain ⟨x13, e13, h⟩ := bd h
    obtain ⟨μ14, e14, h⟩ := bd h
    have hk := (kp_paI e14).trans hk
    obtain ⟨v15, e15, h⟩ := bd h
    have h := Option.some.inj h
    subst h
    exact hk
theorem p_X11_comes_W2 {l0 : Nat} {l1 : Int32} {s2 : Int32 × Mm} {b : Mm} (h : whl (f_X11_comes_L2 l0 l1) s2 = some b) : mm_P ((fun (q : Mm) => q) b) = mm_P ((fun (q : Int32 × Mm) => q.2) s2) :=
  whl_P (g := (fun (q : Int32 × Mm) => q.2)) (gb := (fun (q : Mm) => q)) (fun s x hx => p_X11_comes_L2 hx) h
theorem p_X11_comes {l0 : Nat} {l1 : Int32} {μ : Mm} {x : Mm} (h : f_X11_comes l0 l1 μ = some x) : mm_P ((fun (q : Mm) => q) x) = mm_P μ := by
  have hk : mm_P μ = mm_P μ := rfl
  obtain ⟨b2, w2, h⟩ := bd h
  have hk := (p_X11_comes_W2 w2).trans hk
  have h := Option.some.inj h
  subst h
  exact hk
theorem p_X11_makeTurnings_J151 {self : Nat → Int32 → Int32 → Int64 → Mm → Option Mm} (hs : ∀ (y0 : Nat) (y1 : Int32) (y2 : Int32) (y3 : Int64) (μ : Mm) (x : Mm), self y0 y1 y2 y3 μ = some x → mm_P ((fun (q : Mm) => q) x) = mm_P μ) {a0 : Nat} {l1 : Int32} {l2 : Int32} {l3 : Int64} {l5 : Int32} {μ : Mm} {x : ((Int32 × Mm) ⊕ (Mm))} (h : f_X11_makeTurnings_J151 self a0 l1 l2 l3 l5 μ = some x) : mm_P ((sm (fun (q : Int32 × Mm) => q.2) (fun (q : Mm) => q)) x) = mm_P μ := by
  have hk : mm_P μ = mm_P μ := rfl
  obtain ⟨v151, e151, h⟩ := bd h
  have h := Option.some.inj h
  subst h
  exact hk
theorem p_X11_makeTurnings_J122 {self : Nat → Int32 → Int32 → Int64 → Mm → Option Mm} (hs : ∀ (y0 : Nat) (y1 : Int32) (y2 : Int32) (y3 : Int64) (μ : Mm) (x : Mm), self y0 y1 y2 y3 μ = some x → mm_P ((fun (q : Mm) => q) x) = mm_P μ) {a0 : Nat} {l1 : Int32} {l2 : Int32} {l3 : Int64} {l5 : Int32} {k0 : Int32} {μ : Mm} {x : ((Int32 × Mm) ⊕ (Mm))} (h : f_X11_makeTurnings_J122 self a0 l1 l2 l3 l5 k0 μ = some x) : mm_P ((sm (fun (q : Int32 × Mm) => q.2) (fun (q : Mm) => q)) x) = mm_P μ := by
  have hk : mm_P μ = mm_P μ := rfl
  rcases ite_e h with ⟨_, h⟩ | ⟨_, h⟩
  · exact (p_X11_makeTurnings_J151 hs h).trans hk
  · obtain ⟨x148, e148, h⟩ := bd h
    have hk := (hs a0 (l1 + (1 : Int32)) (l2 ||| ((1 : Int32) <<< (l5 &&& 31))) (l3 ||| (l5.toInt64 <<< (((4 : Int32) * l1).toInt64 &&& 63))) μ _ e148).trans hk
    exact (p_X11_makeTurnings_J151 hs h).trans hk
theorem p_X11_makeTurnings_J121 {self : Nat → Int32 → Int32 → Int64 → Mm → Option Mm} (hs : ∀ (y0 : Nat) (y1 : Int32) (y2 : Int32) (y3 : Int64) (μ : Mm) (x : Mm), self y0 y1 y2 y3 μ = some x → mm_P ((fun (q : Mm) => q) x) = mm_P μ) {a0 : Nat} {l1 : Int32} {l2 : Int32} {l3 : Int64} {l5 : Int32} {μ : Mm} {x : ((Int32 × Mm) ⊕ (Mm))} (h : f_X11_makeTurnings_J121 self a0 l1 l2 l3 l5 μ = some x) : mm_P ((sm (fun (q : Int32 × Mm) => q.2) (fun (q : Mm) => q)) x) = mm_P μ := by
  have hk : mm_P μ = mm_P μ := rfl
  exact (p_X11_makeTurnings_J122 hs h).trans hk
theorem p_X11_makeTurnings_J117 {self : Nat → Int32 → Int32 → Int64 → Mm → Option Mm} (hs : ∀ (y0 : Nat) (y1 : Int32) (y2 : Int32) (y3 : Int64) (μ : Mm) (x : Mm), self y0 y1 y2 y3 μ = some x → mm_P ((fun (q : Mm) => q) x) = mm_P μ) {a0 : Nat} {l1 : Int32} {l2 : Int32} {l3 : Int64} {l5 : Int32} {μ : Mm} {x : ((Int32 × Mm) ⊕ (Mm))} (h : f_X11_makeTurnings_J117 self a0 l1 l2 l3 l5 μ = some x) : mm_P ((sm (fun (q : Int32 × Mm) => q.2) (fun (q : Mm) => q)) x) = mm_P μ := by
  have hk : mm_P μ = mm_P μ := rfl
  exact (p_X11_makeTurnings_J122 hs h).trans hk
theorem p_X11_makeTurnings_L60 {self : Nat → Int32 → Int32 → Int64 → Mm → Option Mm} (hs : ∀ (y0 : Nat) (y1 : Int32) (y2 : Int32) (y3 : Int64) (μ : Mm) (x : Mm), self y0 y1 y2 y3 μ = some x → mm_P ((fun (q : Mm) => q) x) = mm_P μ) {a0 : Nat} {l1 : Int32} {l2 : Int32} {l3 : Int64} {s60 : Int32 × Mm} {x : ((Int32 × Mm) ⊕ (Mm))} (h : f_X11_makeTurnings_L60 self a0 l1 l2 l3 s60 = some x) : mm_P (sm (fun (q : Int32 × Mm) => q.2) (fun (q : Mm) => q) x) = mm_P ((fun (q : Int32 × Mm) => q.2) s60) := by
  have hk : mm_P (s60.2) = mm_P (s60.2) := rfl
  obtain ⟨x63, e63, h⟩ := bd h
  obtain ⟨x67, e67, h⟩ := bd h
  rcases ite_e h with ⟨_, h⟩ | ⟨_, h⟩
  · have h := Option.some.inj h
    subst h
    exact hk
  · rcases ite_e h with ⟨_, h⟩ | ⟨_, h⟩
    · exact (p_X11_makeTurnings_J121 hs h).trans hk
    · obtain ⟨x80, e80, h⟩ := bd h
      rcases ite_e h with ⟨_, h⟩ | ⟨_, h⟩
      · rcases ite_e h with ⟨_, h⟩ | ⟨_, h⟩
        · obtain ⟨x96, e96, h⟩ := bd h
          obtain ⟨x100, e100, h⟩ := bd h
          rcases ite_e h with ⟨_, h⟩ | ⟨_, h⟩
          · exact (p_X11_makeTurnings_J117 hs h).trans hk
          · obtain ⟨x105, e105, h⟩ := bd h
            obtain ⟨x109, e109, h⟩ := bd h
            rcases ite_e h with ⟨_, h⟩ | ⟨_, h⟩
            · exact (p_X11_makeTurnings_J117 hs h).trans hk
            · exact (p_X11_makeTurnings_J121 hs h).trans hk
        · exact (p_X11_makeTurnings_J121 hs h).trans hk
      · exact (p_X11_makeTurnings_J121 hs h).trans hk
theorem p_X11_makeTurnings_W60 {self : Nat → Int32 → Int32 → Int64 → Mm → Option Mm} (hs : ∀ (y0 : Nat) (y1 : Int32) (y2 : Int32) (y3 : Int64) (μ : Mm) (x : Mm), self y0 y1 y2 y3 μ = some x → mm_P ((fun (q : Mm) => q) x) = mm_P μ) {a0 : Nat} {l1 : Int32} {l2 : Int32} {l3 : Int64} {s60 : Int32 × Mm} {b : Mm} (h : whl (f_X11_makeTurnings_L60 self a0 l1 l2 l3) s60 = some b) : mm_P ((fun (q : Mm) => q) b) = mm_P ((fun (q : Int32 × Mm) => q.2) s60) :=
  whl_P (g := (fun (q : Int32 × Mm) => q.2)) (gb := (fun (q : Mm) => q)) (fun s x hx => p_X11_makeTurnings_L60 hs hx) h
theorem p_X11_makeTurnings_B {self : Nat → Int32 → Int32 → Int64 → Mm → Option Mm} (hs : ∀ (y0 : Nat) (y1 : Int32) (y2 : Int32) (y3 : Int64) (μ : Mm) (x : Mm), self y0 y1 y2 y3 μ = some x → mm_P ((fun (q : Mm) => q) x) = mm_P μ) {a0 : Nat} {l1 : Int32} {l2 : Int32} {l3 : Int64} {μ : Mm} {x : Mm} (h : f_X11_makeTurnings_B self a0 l1 l2 l3 μ = some x) : mm_P ((fun (q : Mm) => q) x) = mm_P μ := by
  have hk : mm_P μ = mm_P μ := rfl
  obtain ⟨_, h⟩ := ite_p h
  obtain ⟨x2, e2, h⟩ := bd h
  obtain ⟨x6, e6, h⟩ := bd h
  rcases ite_e h with ⟨_, h⟩ | ⟨_, h⟩
  · obtain ⟨x11, e11, h⟩ := bd h
    obtain ⟨x15, e15, h⟩ := bd h
    obtain ⟨μ19, e19, h⟩ := bd h
    have hk := (kp_paL e19).trans hk
    obtain ⟨x22, e22, h⟩ := bd h
    obtain ⟨μ27, e27, h⟩ := bd h
    have hk := (kp_pfI e27).trans hk
    have h := Option.some.inj h
    subst h
    exact hk
  · obtain ⟨x33, e33, h⟩ := bd h
    rcases ite_e h with ⟨_, h⟩ | ⟨_, h⟩
    · obtain ⟨b60, w60, h⟩ := bd h
      have hk := (p_X11_makeTurnings_W60 hs w60).trans hk
      have h := Option.some.inj h
      subst h
      exact hk
    · obtain ⟨x53, e53, h⟩ := bd h
      have hk := (hs a0 (l1 + (1 : Int32)) l2 (l3 ||| ((15 : Int64) <<< (((4 : Int32) * l1).toInt64 &&& 63))) μ _ e53).trans hk
      have h := Option.some.inj h
      subst h
      exact hk
theorem p_X11_makeTurnings {n : Nat} : ∀ {a0 : Nat} {l1 : Int32} {l2 : Int32} {l3 : Int64} {μ : Mm} {x : Mm}, f_X11_makeTurnings n a0 l1 l2 l3 μ = some x → mm_P ((fun (q : Mm) => q) x) = mm_P μ := by
  induction n with
  | zero => intro a0 l1 l2 l3 μ x h; cases h
  | succ n ih => intro a0 l1 l2 l3 μ x h; exact p_X11_makeTurnings_B (fun _ _ _ _ μ x h => ih h) h
theorem p_X11_settle_L192 {a0 : Nat} {s192 : Int32 × Mm} {x : ((Int32 × Mm) ⊕ (Mm))} (h : f_X11_settle_L192 a0 s192 = some x) : mm_P (sm (fun (q : Int32 × Mm) => q.2) (fun (q : Mm) => q) x) = mm_P ((fun (q : Int32 × Mm) => q.2) s192) := by
  have hk : mm_P (s192.2) = mm_P (s192.2) := rfl
  rcases ite_e h with ⟨_, h⟩ | ⟨_, h⟩
  · have h := Option.some.inj h
    subst h
    exact hk
  · obtain ⟨x198, e198, h⟩ := bd h
    obtain ⟨μ203, e203, h⟩ := bd h
    have hk := (kp_paZ e203).trans hk
    obtain ⟨v204, e204, h⟩ := bd h
    have h := Option.some.inj h
    subst h
    exact hk
theorem p_X11_settle_W192 {a0 : Nat} {s192 : Int32 × Mm} {b : Mm} (h : whl (f_X11_settle_L192 a0) s192 = some b) : mm_P ((fun (q : Mm) => q) b) = mm_P ((fun (q : Int32 × Mm) => q.2) s192) :=
  whl_P (g := (fun (q : Int32 × Mm) => q.2)) (gb := (fun (q : Mm) => q)) (fun s x hx => p_X11_settle_L192 hx) h
theorem p_X11_settle {a0 : Nat} {μ : Mm} {x : Mm} (h : f_X11_settle a0 μ = some x) : mm_P ((fun (q : Mm) => q) x) = mm_P μ := by
  have hk : mm_P μ = mm_P μ := rfl
  obtain ⟨_, h⟩ := ite_p h
  obtain ⟨x1, e1, h⟩ := bd h
  obtain ⟨x6, e6, h⟩ := bd h
  have hk := (p_X11_comes e6).trans hk
  obtain ⟨x10, e10, h⟩ := bd h
  obtain ⟨x15, e15, h⟩ := bd h
  have hk := (p_X11_comes e15).trans hk
  obtain ⟨x19, e19, h⟩ := bd h
  obtain ⟨x24, e24, h⟩ := bd h
  have hk := (p_X11_comes e24).trans hk
  obtain ⟨x28, e28, h⟩ := bd h
  obtain ⟨x33, e33, h⟩ := bd h
  have hk := (p_X11_comes e33).trans hk
  obtain ⟨x37, e37, h⟩ := bd h
  obtain ⟨x42, e42, h⟩ := bd h
  have hk := (p_X11_comes e42).trans hk
  obtain ⟨x46, e46, h⟩ := bd h
  obtain ⟨x51, e51, h⟩ := bd h
  have hk := (p_X11_comes e51).trans hk
  obtain ⟨x55, e55, h⟩ := bd h
  obtain ⟨x60, e60, h⟩ := bd h
  have hk := (p_X11_comes e60).trans hk
  obtain ⟨x64, e64, h⟩ := bd h
  obtain ⟨x69, e69, h⟩ := bd h
  have hk := (p_X11_comes e69).trans hk
  obtain ⟨x73, e73, h⟩ := bd h
  obtain ⟨x78, e78, h⟩ := bd h
  have hk := (p_X11_comes e78).trans hk
  obtain ⟨x82, e82, h⟩ := bd h
  obtain ⟨x87, e87, h⟩ := bd h
  have hk := (p_X11_comes e87).trans hk
  obtain ⟨x91, e91, h⟩ := bd h
  obtain ⟨x96, e96, h⟩ := bd h
  have hk := (p_X11_comes e96).trans hk
  obtain ⟨x100, e100, h⟩ := bd h
  obtain ⟨x105, e105, h⟩ := bd h
  have hk := (p_X11_comes e105).trans hk
  obtain ⟨x109, e109, h⟩ := bd h
  obtain ⟨x114, e114, h⟩ := bd h
  have hk := (p_X11_comes e114).trans hk
  obtain ⟨x118, e118, h⟩ := bd h
  obtain ⟨x123, e123, h⟩ := bd h
  have hk := (p_X11_comes e123).trans hk
  obtain ⟨x127, e127, h⟩ := bd h
  obtain ⟨x132, e132, h⟩ := bd h
  have hk := (p_X11_comes e132).trans hk
  obtain ⟨x136, e136, h⟩ := bd h
  obtain ⟨x141, e141, h⟩ := bd h
  have hk := (p_X11_comes e141).trans hk
  obtain ⟨x145, e145, h⟩ := bd h
  obtain ⟨x150, e150, h⟩ := bd h
  have hk := (p_X11_comes e150).trans hk
  obtain ⟨μ155, e155, h⟩ := bd h
  have hk := (kp_pfI e155).trans hk
  obtain ⟨x162, e162, h⟩ := bd h
  have hk := (p_X11_makeTurnings e162).trans hk
  obtain ⟨μ167, e167, h⟩ := bd h
  have hk := (kp_pfI e167).trans hk
  obtain ⟨μ172, e172, h⟩ := bd h
  have hk := (kp_pfI e172).trans hk
  obtain ⟨μ177, e177, h⟩ := bd h
  have hk := (kp_pfI e177).trans hk
  obtain ⟨μ182, e182, h⟩ := bd h
  have hk := (kp_pfI e182).trans hk
  obtain ⟨μ187, e187, h⟩ := bd h
  have hk := (kp_pfZ e187).trans hk
  obtain ⟨b192, w192, h⟩ := bd h
  have hk := (p_X11_settle_W192 w192).trans hk
  have h := Option.some.inj h
  subst h
  exact hk
theorem p_X11_scan_J270 {a0 : Nat} {l3 : Int32} {μ : Mm} {x : Mm} (h : f_X11_scan_J270 a0 l3 μ = some x) : mm_P ((fun (q : Mm) => q) x) = mm_P μ := by
  have hk : mm_P μ = mm_P μ := rfl
  obtain ⟨μ272, e272, h⟩ := bd h
  have hk := (kp_pfI e272).trans hk
  have h := Option.some.inj h
  subst h
  exact hk
theorem p_X11_scan_J267 {a0 : Nat} {l3 : Int32} {k0 : Nat} {k1 : Int32} {μ : Mm} {x : Mm} (h : f_X11_scan_J267 a0 l3 k0 k1 μ = some x) : mm_P ((fun (q : Mm) => q) x) = mm_P μ := by
  have hk : mm_P μ = mm_P μ := rfl
  obtain ⟨μ267, e267, h⟩ := bd h
  have hk := (kp_pfI e267).trans hk
  exact (p_X11_scan_J270 h).trans hk
theorem p_X11_scan_J249 {a0 : Nat} {l3 : Int32} {k0 : Nat} {k1 : Int32} {μ : Mm} {x : Mm} (h : f_X11_scan_J249 a0 l3 k0 k1 μ = some x) : mm_P ((fun (q : Mm) => q) x) = mm_P μ := by
  have hk : mm_P μ = mm_P μ := rfl
  obtain ⟨μ249, e249, h⟩ := bd h
  have hk := (kp_pfI e249).trans hk
  exact (p_X11_scan_J270 h).trans hk
theorem p_X11_scan_J236 {a0 : Nat} {l1 : Int32} {l3 : Int32} {μ : Mm} {x : Mm} (h : f_X11_scan_J236 a0 l1 l3 μ = some x) : mm_P ((fun (q : Mm) => q) x) = mm_P μ := by
  have hk : mm_P μ = mm_P μ := rfl
  rcases ite_e h with ⟨_, h⟩ | ⟨_, h⟩
  · exact (p_X11_scan_J249 h).trans hk
  · exact (p_X11_scan_J249 h).trans hk
theorem p_X11_scan_J227 {a0 : Nat} {l1 : Int32} {l3 : Int32} {k0 : Nat} {k1 : Int32} {μ : Mm} {x : ((Int32 × Mm) ⊕ (Int32 × Mm))} (h : f_X11_scan_J227 a0 l1 l3 k0 k1 μ = some x) : mm_P ((sm (fun (q : Int32 × Mm) => q.2) (fun (q : Int32 × Mm) => q.2)) x) = mm_P μ := by
  have hk : mm_P μ = mm_P μ := rfl
  obtain ⟨μ227, e227, h⟩ := bd h
  have hk := (kp_pfI e227).trans hk
  obtain ⟨v230, e230, h⟩ := bd h
  have h := Option.some.inj h
  subst h
  exact hk
theorem p_X11_scan_L185 {a0 : Nat} {l1 : Int32} {s185 : Int32 × Mm} {x : ((Int32 × Mm) ⊕ (Int32 × Mm))} (h : f_X11_scan_L185 a0 l1 s185 = some x) : mm_P (sm (fun (q : Int32 × Mm) => q.2) (fun (q : Int32 × Mm) => q.2) x) = mm_P ((fun (q : Int32 × Mm) => q.2) s185) := by
  have hk : mm_P (s185.2) = mm_P (s185.2) := rfl
  obtain ⟨x187, e187, h⟩ := bd h
  obtain ⟨x190, e190, h⟩ := bd h
  rcases ite_e h with ⟨_, h⟩ | ⟨_, h⟩
  · have h := Option.some.inj h
    subst h
    exact hk
  · rcases ite_e h with ⟨_, h⟩ | ⟨_, h⟩
    · obtain ⟨x224, e224, h⟩ := bd h
      exact (p_X11_scan_J227 h).trans hk
    · obtain ⟨x207, e207, h⟩ := bd h
      obtain ⟨x213, e213, h⟩ := bd h
      exact (p_X11_scan_J227 h).trans hk
theorem p_X11_scan_W185 {a0 : Nat} {l1 : Int32} {s185 : Int32 × Mm} {b : Int32 × Mm} (h : whl (f_X11_scan_L185 a0 l1) s185 = some b) : mm_P ((fun (q : Int32 × Mm) => q.2) b) = mm_P ((fun (q : Int32 × Mm) => q.2) s185) :=
  whl_P (g := (fun (q : Int32 × Mm) => q.2)) (gb := (fun (q : Int32 × Mm) => q.2)) (fun s x hx => p_X11_scan_L185 hx) h
theorem p_X11_scan_J144 {a0 : Nat} {l1 : Int32} {l3 : Int32} {k0 : Nat} {k1 : Int32} {μ : Mm} {x : Mm} (h : f_X11_scan_J144 a0 l1 l3 k0 k1 μ = some x) : mm_P ((fun (q : Mm) => q) x) = mm_P μ := by
  have hk : mm_P μ = mm_P μ := rfl
  obtain ⟨μ144, e144, h⟩ := bd h
  have hk := (kp_pfI e144).trans hk
  obtain ⟨x148, e148, h⟩ := bd h
  rcases ite_e h with ⟨_, h⟩ | ⟨_, h⟩
  · obtain ⟨x161, e161, h⟩ := bd h
    obtain ⟨μ164, e164, h⟩ := bd h
    have hk := (kp_pfI e164).trans hk
    exact (p_X11_scan_J270 h).trans hk
  · exact (p_X11_scan_J270 h).trans hk
theorem p_X11_scan_J130 {a0 : Nat} {l1 : Int32} {l3 : Int32} {μ : Mm} {x : Mm} (h : f_X11_scan_J130 a0 l1 l3 μ = some x) : mm_P ((fun (q : Mm) => q) x) = mm_P μ := by
  have hk : mm_P μ = mm_P μ := rfl
  rcases ite_e h with ⟨_, h⟩ | ⟨_, h⟩
  · exact (p_X11_scan_J144 h).trans hk
  · exact (p_X11_scan_J144 h).trans hk
theorem p_X11_scan_J124 {a0 : Nat} {l1 : Int32} {l3 : Int32} {μ : Mm} {x : ((Int32 × Mm) ⊕ (Int32 × Mm))} (h : f_X11_scan_J124 a0 l1 l3 μ = some x) : mm_P ((sm (fun (q : Int32 × Mm) => q.2) (fun (q : Int32 × Mm) => q.2)) x) = mm_P μ := by
  have hk : mm_P μ = mm_P μ := rfl
  obtain ⟨v124, e124, h⟩ := bd h
  have h := Option.some.inj h
  subst h
  exact hk
theorem p_X11_scan_L80 {a0 : Nat} {l1 : Int32} {s80 : Int32 × Mm} {x : ((Int32 × Mm) ⊕ (Int32 × Mm))} (h : f_X11_scan_L80 a0 l1 s80 = some x) : mm_P (sm (fun (q : Int32 × Mm) => q.2) (fun (q : Int32 × Mm) => q.2) x) = mm_P ((fun (q : Int32 × Mm) => q.2) s80) := by
  have hk : mm_P (s80.2) = mm_P (s80.2) := rfl
  obtain ⟨x82, e82, h⟩ := bd h
  obtain ⟨x85, e85, h⟩ := bd h
  rcases ite_e h with ⟨_, h⟩ | ⟨_, h⟩
  · have h := Option.some.inj h
    subst h
    exact hk
  · rcases ite_e h with ⟨_, h⟩ | ⟨_, h⟩
    · exact (p_X11_scan_J124 h).trans hk
    · obtain ⟨x104, e104, h⟩ := bd h
      obtain ⟨x110, e110, h⟩ := bd h
      obtain ⟨μ121, e121, h⟩ := bd h
      have hk := (kp_pfL e121).trans hk
      exact (p_X11_scan_J124 h).trans hk
theorem p_X11_scan_W80 {a0 : Nat} {l1 : Int32} {s80 : Int32 × Mm} {b : Int32 × Mm} (h : whl (f_X11_scan_L80 a0 l1) s80 = some b) : mm_P ((fun (q : Int32 × Mm) => q.2) b) = mm_P ((fun (q : Int32 × Mm) => q.2) s80) :=
  whl_P (g := (fun (q : Int32 × Mm) => q.2)) (gb := (fun (q : Int32 × Mm) => q.2)) (fun s x hx => p_X11_scan_L80 hx) h
theorem p_X11_scan_J31 {a0 : Nat} {l1 : Int32} {μ : Mm} {x : Mm} (h : f_X11_scan_J31 a0 l1 μ = some x) : mm_P ((fun (q : Mm) => q) x) = mm_P μ := by
  have hk : mm_P μ = mm_P μ := rfl
  obtain ⟨μ33, e33, h⟩ := bd h
  have hk := (kp_pfI e33).trans hk
  obtain ⟨x38, e38, h⟩ := bd h
  obtain ⟨v45, e45, h⟩ := bd h
  obtain ⟨μ48, e48, h⟩ := bd h
  have hk := (kp_pfI e48).trans hk
  rcases ite_e h with ⟨_, h⟩ | ⟨_, h⟩
  · obtain ⟨μ58, e58, h⟩ := bd h
    have hk := (kp_pfI e58).trans hk
    exact (p_X11_scan_J270 h).trans hk
  · obtain ⟨x67, e67, h⟩ := bd h
    rcases ite_e h with ⟨_, h⟩ | ⟨_, h⟩
    · obtain ⟨x171, e171, h⟩ := bd h
      rcases ite_e h with ⟨_, h⟩ | ⟨_, h⟩
      · rcases ite_e h with ⟨_, h⟩ | ⟨_, h⟩
        · exact (p_X11_scan_J267 h).trans hk
        · exact (p_X11_scan_J267 h).trans hk
      · obtain ⟨μ182, e182, h⟩ := bd h
        have hk := (kp_pfI e182).trans hk
        obtain ⟨b185, w185, h⟩ := bd h
        have hk := (p_X11_scan_W185 w185).trans hk
        exact (p_X11_scan_J236 h).trans hk
    · obtain ⟨μ75, e75, h⟩ := bd h
      have hk := (kp_pfL e75).trans hk
      obtain ⟨b80, w80, h⟩ := bd h
      have hk := (p_X11_scan_W80 w80).trans hk
      exact (p_X11_scan_J130 h).trans hk
theorem p_X11_scan {a0 : Nat} {μ : Mm} {x : Mm} (h : f_X11_scan a0 μ = some x) : mm_P ((fun (q : Mm) => q) x) = mm_P μ := by
  have hk : mm_P μ = mm_P μ := rfl
  obtain ⟨_, h⟩ := ite_p h
  obtain ⟨x1, e1, h⟩ := bd h
  obtain ⟨b5, w5, h⟩ := bd h
  exact (p_X11_scan_J31 h).trans hk
theorem p_X11_takeTape {a0 : Nat} {μ : Mm} {x : Mm} (h : f_X11_takeTape a0 μ = some x) : mm_P ((fun (q : Mm) => q) x) = mm_P μ := by
  have hk : mm_P μ = mm_P μ := rfl
  obtain ⟨_, h⟩ := ite_p h
  obtain ⟨x2, e2, h⟩ := bd h
  obtain ⟨μ5, e5, h⟩ := bd h
  have hk := (kp_pfI e5).trans hk
  obtain ⟨μ10, e10, h⟩ := bd h
  have hk := (kp_pfI e10).trans hk
  obtain ⟨μ15, e15, h⟩ := bd h
  have hk := (kp_pfI e15).trans hk
  obtain ⟨x19, e19, h⟩ := bd h
  have hk := (p_X11_scan e19).trans hk
  have h := Option.some.inj h
  subst h
  exact hk
theorem p_X11_readBook_J114 {a0 : Nat} {l1 : Int32} {μ : Mm} {x : ((Int32 × Mm) ⊕ ((Mm) ⊕ ((Mm) ⊕ (Int32 × Mm))))} (h : f_X11_readBook_J114 a0 l1 μ = some x) : mm_P ((sm (fun (q : Int32 × Mm) => q.2) (sm (fun (q : Mm) => q) (sm (fun (q : Mm) => q) (fun (q : Int32 × Mm) => q.2)))) x) = mm_P μ := by
  have hk : mm_P μ = mm_P μ := rfl
  obtain ⟨x115, e115, h⟩ := bd h
  rcases ite_e h with ⟨_, h⟩ | ⟨_, h⟩
  · obtain ⟨x125, e125, h⟩ := bd h
    have hk := (p_X11_scan e125).trans hk
    obtain ⟨v128, e128, h⟩ := bd h
    have h := Option.some.inj h
    subst h
    exact hk
  · have h := Option.some.inj h
    subst h
    exact hk
theorem p_X11_readBook_J104 {a0 : Nat} {l1 : Int32} {l2 : Int32} {μ : Mm} {x : ((Int32 × Mm) ⊕ ((Mm) ⊕ (Mm)))} (h : f_X11_readBook_J104 a0 l1 l2 μ = some x) : mm_P ((sm (fun (q : Int32 × Mm) => q.2) (sm (fun (q : Mm) => q) (fun (q : Mm) => q))) x) = mm_P μ := by
  have hk : mm_P μ = mm_P μ := rfl
  obtain ⟨x105, e105, h⟩ := bd h
  have hk := (p_X11_scan e105).trans hk
  obtain ⟨v108, e108, h⟩ := bd h
  have h := Option.some.inj h
  subst h
  exact hk
theorem p_X11_readBook_J54 {a0 : Nat} {l1 : Int32} {l2 : Int32} {k0 : Int32} {k1 : Int32} {μ : Mm} {x : ((Int32 × Mm) ⊕ ((Mm) ⊕ (Mm)))} (h : f_X11_readBook_J54 a0 l1 l2 k0 k1 μ = some x) : mm_P ((sm (fun (q : Int32 × Mm) => q.2) (sm (fun (q : Mm) => q) (fun (q : Mm) => q))) x) = mm_P μ := by
  have hk : mm_P μ = mm_P μ := rfl
  rcases ite_e h with ⟨_, h⟩ | ⟨_, h⟩
  · rcases ite_e h with ⟨_, h⟩ | ⟨_, h⟩
    · obtain ⟨x64, e64, h⟩ := bd h
      obtain ⟨x69, e69, h⟩ := bd h
      obtain ⟨μ72, e72, h⟩ := bd h
      have hk := (kp_paI e72).trans hk
      exact (p_X11_readBook_J104 h).trans hk
    · rcases ite_e h with ⟨_, h⟩ | ⟨_, h⟩
      · obtain ⟨x82, e82, h⟩ := bd h
        obtain ⟨x87, e87, h⟩ := bd h
        obtain ⟨μ90, e90, h⟩ := bd h
        have hk := (kp_paI e90).trans hk
        exact (p_X11_readBook_J104 h).trans hk
      · obtain ⟨x95, e95, h⟩ := bd h
        obtain ⟨x100, e100, h⟩ := bd h
        obtain ⟨μ103, e103, h⟩ := bd h
        have hk := (kp_paI e103).trans hk
        exact (p_X11_readBook_J104 h).trans hk
  · have h := Option.some.inj h
    subst h
    exact hk
theorem p_X11_readBook_L16 {a0 : Nat} {l1 : Int32} {s16 : Int32 × Mm} {x : ((Int32 × Mm) ⊕ ((Mm) ⊕ (Mm)))} (h : f_X11_readBook_L16 a0 l1 s16 = some x) : mm_P (sm (fun (q : Int32 × Mm) => q.2) (sm (fun (q : Mm) => q) (fun (q : Mm) => q)) x) = mm_P ((fun (q : Int32 × Mm) => q.2) s16) := by
  have hk : mm_P (s16.2) = mm_P (s16.2) := rfl
  rcases ite_e h with ⟨_, h⟩ | ⟨_, h⟩
  · have h := Option.some.inj h
    subst h
    exact hk
  · obtain ⟨x22, e22, h⟩ := bd h
    rcases ite_e h with ⟨_, h⟩ | ⟨_, h⟩
    · obtain ⟨x30, e30, h⟩ := bd h
      rcases ite_e h with ⟨_, h⟩ | ⟨_, h⟩
      · exact (p_X11_readBook_J54 h).trans hk
      · rcases ite_e h with ⟨_, h⟩ | ⟨_, h⟩
        · exact (p_X11_readBook_J54 h).trans hk
        · exact (p_X11_readBook_J54 h).trans hk
    · have h := Option.some.inj h
      subst h
      exact hk
theorem p_X11_readBook_W16 {a0 : Nat} {l1 : Int32} {s16 : Int32 × Mm} {b : (Mm) ⊕ (Mm)} (h : whl (f_X11_readBook_L16 a0 l1) s16 = some b) : mm_P ((sm (fun (q : Mm) => q) (fun (q : Mm) => q)) b) = mm_P ((fun (q : Int32 × Mm) => q.2) s16) :=
  whl_P (g := (fun (q : Int32 × Mm) => q.2)) (gb := (sm (fun (q : Mm) => q) (fun (q : Mm) => q))) (fun s x hx => p_X11_readBook_L16 hx) h
theorem p_X11_readBook_L6 {a0 : Nat} {s6 : Int32 × Mm} {x : ((Int32 × Mm) ⊕ ((Mm) ⊕ ((Mm) ⊕ (Int32 × Mm))))} (h : f_X11_readBook_L6 a0 s6 = some x) : mm_P (sm (fun (q : Int32 × Mm) => q.2) (sm (fun (q : Mm) => q) (sm (fun (q : Mm) => q) (fun (q : Int32 × Mm) => q.2))) x) = mm_P ((fun (q : Int32 × Mm) => q.2) s6) := by
  have hk : mm_P (s6.2) = mm_P (s6.2) := rfl
  obtain ⟨x7, e7, h⟩ := bd h
  rcases ite_e h with ⟨_, h⟩ | ⟨_, h⟩
  · have h := Option.some.inj h
    subst h
    exact hk
  · obtain ⟨b16, w16, h⟩ := bd h
    have hk := (p_X11_readBook_W16 w16).trans hk
    rcases b16 with b16 | b16
    · have h := Option.some.inj h
      subst h
      exact hk
    · exact (p_X11_readBook_J114 h).trans hk
theorem p_X11_readBook_W6 {a0 : Nat} {s6 : Int32 × Mm} {b : (Mm) ⊕ ((Mm) ⊕ (Int32 × Mm))} (h : whl (f_X11_readBook_L6 a0) s6 = some b) : mm_P ((sm (fun (q : Mm) => q) (sm (fun (q : Mm) => q) (fun (q : Int32 × Mm) => q.2))) b) = mm_P ((fun (q : Int32 × Mm) => q.2) s6) :=
  whl_P (g := (fun (q : Int32 × Mm) => q.2)) (gb := (sm (fun (q : Mm) => q) (sm (fun (q : Mm) => q) (fun (q : Int32 × Mm) => q.2)))) (fun s x hx => p_X11_readBook_L6 hx) h
theorem p_X11_readBook {a0 : Nat} {μ : Mm} {x : (Int32 × Mm)} (h : f_X11_readBook a0 μ = some x) : mm_P ((fun (q : (Int32 × Mm)) => q.2) x) = mm_P μ := by
  have hk : mm_P μ = mm_P μ := rfl
  obtain ⟨_, h⟩ := ite_p h
  obtain ⟨x1, e1, h⟩ := bd h
  have hk := (p_X11_takeTape e1).trans hk
  obtain ⟨b6, w6, h⟩ := bd h
  have hk := (p_X11_readBook_W6 w6).trans hk
  rcases b6 with b6 | b6
  · have h := Option.some.inj h
    subst h
    exact hk
  · rcases b6 with b6 | b6
    · have h := Option.some.inj h
      subst h
      exact hk
    · have h := Option.some.inj h
      subst h
      exact hk
theorem p_X11_judge_L15 {a0 : Nat} {l1 : Int32} {s15 : Int32 × Mm} {x : ((Int32 × Mm) ⊕ ((Int32 × Mm) ⊕ ((Int32 × Mm) ⊕ (Mm))))} (h : f_X11_judge_L15 a0 l1 s15 = some x) : mm_P (sm (fun (q : Int32 × Mm) => q.2) (sm (fun (q : Int32 × Mm) => q.2) (sm (fun (q : Int32 × Mm) => q.2) (fun (q : Mm) => q))) x) = mm_P ((fun (q : Int32 × Mm) => q.2) s15) := by
  have hk : mm_P (s15.2) = mm_P (s15.2) := rfl
  rcases ite_e h with ⟨_, h⟩ | ⟨_, h⟩
  · have h := Option.some.inj h
    subst h
    exact hk
  · obtain ⟨x22, e22, h⟩ := bd h
    obtain ⟨x26, e26, h⟩ := bd h
    obtain ⟨x27, e27, h⟩ := bd h
    rcases ite_e h with ⟨_, h⟩ | ⟨_, h⟩
    · have h := Option.some.inj h
      subst h
      exact hk
    · obtain ⟨x35, e35, h⟩ := bd h
      obtain ⟨x39, e39, h⟩ := bd h
      obtain ⟨x40, e40, h⟩ := bd h
      rcases ite_e h with ⟨_, h⟩ | ⟨_, h⟩
      · have h := Option.some.inj h
        subst h
        exact hk
      · obtain ⟨x52, e52, h⟩ := bd h
        obtain ⟨x56, e56, h⟩ := bd h
        obtain ⟨x59, e59, h⟩ := bd h
        obtain ⟨x61, e61, h⟩ := bd h
        obtain ⟨x65, e65, h⟩ := bd h
        obtain ⟨x69, e69, h⟩ := bd h
        have hk := (p_X11_live e69).trans hk
        obtain ⟨x73, e73, h⟩ := bd h
        obtain ⟨x77, e77, h⟩ := bd h
        obtain ⟨x81, e81, h⟩ := bd h
        obtain ⟨x82, e82, h⟩ := bd h
        obtain ⟨x84, e84, h⟩ := bd h
        obtain ⟨x88, e88, h⟩ := bd h
        rcases ite_e h with ⟨_, h⟩ | ⟨_, h⟩
        · have h := Option.some.inj h
          subst h
          exact hk
        · obtain ⟨v99, e99, h⟩ := bd h
          have h := Option.some.inj h
          subst h
          exact hk
theorem p_X11_judge_W15 {a0 : Nat} {l1 : Int32} {s15 : Int32 × Mm} {b : (Int32 × Mm) ⊕ ((Int32 × Mm) ⊕ (Mm))} (h : whl (f_X11_judge_L15 a0 l1) s15 = some b) : mm_P ((sm (fun (q : Int32 × Mm) => q.2) (sm (fun (q : Int32 × Mm) => q.2) (fun (q : Mm) => q))) b) = mm_P ((fun (q : Int32 × Mm) => q.2) s15) :=
  whl_P (g := (fun (q : Int32 × Mm) => q.2)) (gb := (sm (fun (q : Int32 × Mm) => q.2) (sm (fun (q : Int32 × Mm) => q.2) (fun (q : Mm) => q)))) (fun s x hx => p_X11_judge_L15 hx) h
theorem p_X11_judge {a0 : Nat} {μ : Mm} {x : (Int32 × Mm)} (h : f_X11_judge a0 μ = some x) : mm_P ((fun (q : (Int32 × Mm)) => q.2) x) = mm_P μ := by
  have hk : mm_P μ = mm_P μ := rfl
  obtain ⟨_, h⟩ := ite_p h
  obtain ⟨x1, e1, h⟩ := bd h
  have hk := (p_X11_readBook e1).trans hk
  rcases ite_e h with ⟨_, h⟩ | ⟨_, h⟩
  · obtain ⟨b15, w15, h⟩ := bd h
    have hk := (p_X11_judge_W15 w15).trans hk
    rcases b15 with b15 | b15
    · have h := Option.some.inj h
      subst h
      exact hk
    · rcases b15 with b15 | b15
      · have h := Option.some.inj h
        subst h
        exact hk
      · have h := Option.some.inj h
        subst h
        exact hk
  · have h := Option.some.inj h
    subst h
    exact hk
theorem p_X11_keep_J90 {a0 : Nat} {μ : Mm} {x : (Int32 × Mm)} (h : f_X11_keep_J90 a0 μ = some x) : mm_P ((fun (q : (Int32 × Mm)) => q.2) x) = mm_P μ := by
  have hk : mm_P μ = mm_P μ := rfl
  obtain ⟨x91, e91, h⟩ := bd h
  have h := Option.some.inj h
  subst h
  exact hk
theorem p_X11_keep_L59 {a0 : Nat} {l1 : Int32} {s59 : Int32 × Mm} {x : ((Int32 × Mm) ⊕ (Mm))} (h : f_X11_keep_L59 a0 l1 s59 = some x) : mm_P (sm (fun (q : Int32 × Mm) => q.2) (fun (q : Mm) => q) x) = mm_P ((fun (q : Int32 × Mm) => q.2) s59) := by
  have hk : mm_P (s59.2) = mm_P (s59.2) := rfl
  rcases ite_e h with ⟨_, h⟩ | ⟨_, h⟩
  · have h := Option.some.inj h
    subst h
    exact hk
  · obtain ⟨x66, e66, h⟩ := bd h
    obtain ⟨x78, e78, h⟩ := bd h
    obtain ⟨x82, e82, h⟩ := bd h
    obtain ⟨μ83, e83, h⟩ := bd h
    have hk := (kp_paI e83).trans hk
    obtain ⟨v84, e84, h⟩ := bd h
    have h := Option.some.inj h
    subst h
    exact hk
theorem p_X11_keep_W59 {a0 : Nat} {l1 : Int32} {s59 : Int32 × Mm} {b : Mm} (h : whl (f_X11_keep_L59 a0 l1) s59 = some b) : mm_P ((fun (q : Mm) => q) b) = mm_P ((fun (q : Int32 × Mm) => q.2) s59) :=
  whl_P (g := (fun (q : Int32 × Mm) => q.2)) (gb := (fun (q : Mm) => q)) (fun s x hx => p_X11_keep_L59 hx) h
theorem p_X11_keep {a0 : Nat} {l1 : Int32} {μ : Mm} {x : (Int32 × Mm)} (h : f_X11_keep a0 l1 μ = some x) : mm_P ((fun (q : (Int32 × Mm)) => q.2) x) = mm_P μ := by
  have hk : mm_P μ = mm_P μ := rfl
  obtain ⟨_, h⟩ := ite_p h
  obtain ⟨x1, e1, h⟩ := bd h
  rcases ite_e h with ⟨_, h⟩ | ⟨_, h⟩
  · have h := Option.some.inj h
    subst h
    exact hk
  · obtain ⟨x11, e11, h⟩ := bd h
    rcases ite_e h with ⟨_, h⟩ | ⟨_, h⟩
    · have h := Option.some.inj h
      subst h
      exact hk
    · obtain ⟨x21, e21, h⟩ := bd h
      obtain ⟨μ26, e26, h⟩ := bd h
      have hk := (kp_paZ e26).trans hk
      obtain ⟨x28, e28, h⟩ := bd h
      obtain ⟨x33, e33, h⟩ := bd h
      obtain ⟨μ36, e36, h⟩ := bd h
      have hk := (kp_paI e36).trans hk
      obtain ⟨x38, e38, h⟩ := bd h
      obtain ⟨x43, e43, h⟩ := bd h
      obtain ⟨μ46, e46, h⟩ := bd h
      have hk := (kp_paI e46).trans hk
      obtain ⟨x48, e48, h⟩ := bd h
      obtain ⟨x53, e53, h⟩ := bd h
      obtain ⟨μ56, e56, h⟩ := bd h
      have hk := (kp_paL e56).trans hk
      obtain ⟨b59, w59, h⟩ := bd h
      have hk := (p_X11_keep_W59 w59).trans hk
      exact (p_X11_keep_J90 h).trans hk
theorem p_X11_kept_J113 {a0 : Nat} {l4 : Int32} {μ : Mm} {x : (Int32 × Mm)} (h : f_X11_kept_J113 a0 l4 μ = some x) : mm_P ((fun (q : (Int32 × Mm)) => q.2) x) = mm_P μ := by
  have hk : mm_P μ = mm_P μ := rfl
  obtain ⟨μ115, e115, h⟩ := bd h
  have hk := (kp_pfI e115).trans hk
  have h := Option.some.inj h
  subst h
  exact hk
theorem p_X11_kept_J107 {a0 : Nat} {l1 : Int32} {l2 : Int32} {l3 : Int32} {l4 : Int32} {l5 : Int32} {μ : Mm} {x : ((Int32 × Int32 × Mm) ⊕ (Int32 × Mm))} (h : f_X11_kept_J107 a0 l1 l2 l3 l4 l5 μ = some x) : mm_P ((sm (fun (q : Int32 × Int32 × Mm) => q.2.2) (fun (q : Int32 × Mm) => q.2)) x) = mm_P μ := by
  have hk : mm_P μ = mm_P μ := rfl
  obtain ⟨v107, e107, h⟩ := bd h
  have h := Option.some.inj h
  subst h
  exact hk
theorem p_X11_kept_J67 {a0 : Nat} {l1 : Int32} {l2 : Int32} {l3 : Int32} {l4 : Int32} {l5 : Int32} {μ : Mm} {x : ((Int32 × Int32 × Mm) ⊕ (Int32 × Mm))} (h : f_X11_kept_J67 a0 l1 l2 l3 l4 l5 μ = some x) : mm_P ((sm (fun (q : Int32 × Int32 × Mm) => q.2.2) (fun (q : Int32 × Mm) => q.2)) x) = mm_P μ := by
  have hk : mm_P μ = mm_P μ := rfl
  obtain ⟨μ70, e70, h⟩ := bd h
  have hk := (kp_pfI e70).trans hk
  obtain ⟨x75, e75, h⟩ := bd h
  obtain ⟨x79, e79, h⟩ := bd h
  obtain ⟨x82, e82, h⟩ := bd h
  obtain ⟨x87, e87, h⟩ := bd h
  have hk := (p_X11_live e87).trans hk
  obtain ⟨x91, e91, h⟩ := bd h
  obtain ⟨x95, e95, h⟩ := bd h
  rcases ite_e h with ⟨_, h⟩ | ⟨_, h⟩
  · exact (p_X11_kept_J107 h).trans hk
  · exact (p_X11_kept_J107 h).trans hk
theorem p_X11_kept_L32 {a0 : Nat} {l1 : Int32} {l2 : Int32} {l3 : Int32} {s32 : Int32 × Int32 × Mm} {x : ((Int32 × Int32 × Mm) ⊕ (Int32 × Mm))} (h : f_X11_kept_L32 a0 l1 l2 l3 s32 = some x) : mm_P (sm (fun (q : Int32 × Int32 × Mm) => q.2.2) (fun (q : Int32 × Mm) => q.2) x) = mm_P ((fun (q : Int32 × Int32 × Mm) => q.2.2) s32) := by
  have hk : mm_P (s32.2.2) = mm_P (s32.2.2) := rfl
  obtain ⟨x36, e36, h⟩ := bd h
  obtain ⟨x40, e40, h⟩ := bd h
  rcases ite_e h with ⟨_, h⟩ | ⟨_, h⟩
  · have h := Option.some.inj h
    subst h
    exact hk
  · rcases ite_e h with ⟨_, h⟩ | ⟨_, h⟩
    · exact (p_X11_kept_J67 h).trans hk
    · obtain ⟨x53, e53, h⟩ := bd h
      obtain ⟨x58, e58, h⟩ := bd h
      rcases ite_e h with ⟨_, h⟩ | ⟨_, h⟩
      · exact (p_X11_kept_J67 h).trans hk
      · exact (p_X11_kept_J107 h).trans hk
theorem p_X11_kept_W32 {a0 : Nat} {l1 : Int32} {l2 : Int32} {l3 : Int32} {s32 : Int32 × Int32 × Mm} {b : Int32 × Mm} (h : whl (f_X11_kept_L32 a0 l1 l2 l3) s32 = some b) : mm_P ((fun (q : Int32 × Mm) => q.2) b) = mm_P ((fun (q : Int32 × Int32 × Mm) => q.2.2) s32) :=
  whl_P (g := (fun (q : Int32 × Int32 × Mm) => q.2.2)) (gb := (fun (q : Int32 × Mm) => q.2)) (fun s x hx => p_X11_kept_L32 hx) h
theorem p_X11_kept {a0 : Nat} {l1 : Int32} {l2 : Int32} {l3 : Int32} {μ : Mm} {x : (Int32 × Mm)} (h : f_X11_kept a0 l1 l2 l3 μ = some x) : mm_P ((fun (q : (Int32 × Mm)) => q.2) x) = mm_P μ := by
  have hk : mm_P μ = mm_P μ := rfl
  obtain ⟨_, h⟩ := ite_p h
  obtain ⟨x2, e2, h⟩ := bd h
  rcases ite_e h with ⟨_, h⟩ | ⟨_, h⟩
  · have h := Option.some.inj h
    subst h
    exact hk
  · obtain ⟨x10, e10, h⟩ := bd h
    rcases ite_e h with ⟨_, h⟩ | ⟨_, h⟩
    · have h := Option.some.inj h
      subst h
      exact hk
    · obtain ⟨x17, e17, h⟩ := bd h
      rcases ite_e h with ⟨_, h⟩ | ⟨_, h⟩
      · have h := Option.some.inj h
        subst h
        exact hk
      · obtain ⟨b32, w32, h⟩ := bd h
        have hk := (p_X11_kept_W32 w32).trans hk
        exact (p_X11_kept_J113 h).trans hk
theorem p_X11_knowers_J163 {l4 : Int32} {l5 : Int32} {l6 : Int32} {l7 : Int32} {μ : Mm} {x : (Int32 × Mm)} (h : f_X11_knowers_J163 l4 l5 l6 l7 μ = some x) : mm_P ((fun (q : (Int32 × Mm)) => q.2) x) = mm_P μ := by
  have hk : mm_P μ = mm_P μ := rfl
  rcases ite_e h with ⟨_, h⟩ | ⟨_, h⟩
  · have h := Option.some.inj h
    subst h
    exact hk
  · rcases ite_e h with ⟨_, h⟩ | ⟨_, h⟩
    · have h := Option.some.inj h
      subst h
      exact hk
    · have h := Option.some.inj h
      subst h
      exact hk
theorem p_X11_knowers_J157 {a0 : Nat} {l1 : Int32} {l2 : Int32} {l4 : Int32} {l5 : Int32} {l6 : Int32} {l7 : Int32} {l8 : Int32} {μ : Mm} {x : ((Int32 × Int32 × Int32 × Int32 × Mm) ⊕ (Int32 × Int32 × Int32 × Mm))} (h : f_X11_knowers_J157 a0 l1 l2 l4 l5 l6 l7 l8 μ = some x) : mm_P ((sm (fun (q : Int32 × Int32 × Int32 × Int32 × Mm) => q.2.2.2.2) (fun (q : Int32 × Int32 × Int32 × Mm) => q.2.2.2)) x) = mm_P μ := by
  have hk : mm_P μ = mm_P μ := rfl
  obtain ⟨v157, e157, h⟩ := bd h
  have h := Option.some.inj h
  subst h
  exact hk
theorem p_X11_knowers_J143 {a0 : Nat} {l1 : Int32} {l2 : Int32} {l4 : Int32} {l5 : Int32} {l6 : Int32} {l7 : Int32} {l8 : Int32} {l9 : Int32} {μ : Mm} {x : ((Int32 × Int32 × Int32 × Int32 × Mm) ⊕ (Int32 × Int32 × Int32 × Mm))} (h : f_X11_knowers_J143 a0 l1 l2 l4 l5 l6 l7 l8 l9 μ = some x) : mm_P ((sm (fun (q : Int32 × Int32 × Int32 × Int32 × Mm) => q.2.2.2.2) (fun (q : Int32 × Int32 × Int32 × Mm) => q.2.2.2)) x) = mm_P μ := by
  have hk : mm_P μ = mm_P μ := rfl
  obtain ⟨v148, e148, h⟩ := bd h
  obtain ⟨v155, e155, h⟩ := bd h
  exact (p_X11_knowers_J157 h).trans hk
theorem p_X11_knowers_L62 {a0 : Nat} {l1 : Int32} {l2 : Int32} {l4 : Int32} {s62 : Int32 × Int32 × Int32 × Int32 × Mm} {x : ((Int32 × Int32 × Int32 × Int32 × Mm) ⊕ (Int32 × Int32 × Int32 × Mm))} (h : f_X11_knowers_L62 a0 l1 l2 l4 s62 = some x) : mm_P (sm (fun (q : Int32 × Int32 × Int32 × Int32 × Mm) => q.2.2.2.2) (fun (q : Int32 × Int32 × Int32 × Mm) => q.2.2.2) x) = mm_P ((fun (q : Int32 × Int32 × Int32 × Int32 × Mm) => q.2.2.2.2) s62) := by
  have hk : mm_P (s62.2.2.2.2) = mm_P (s62.2.2.2.2) := rfl
  obtain ⟨x65, e65, h⟩ := bd h
  rcases ite_e h with ⟨_, h⟩ | ⟨_, h⟩
  · have h := Option.some.inj h
    subst h
    exact hk
  · obtain ⟨x74, e74, h⟩ := bd h
    rcases ite_e h with ⟨_, h⟩ | ⟨_, h⟩
    · exact (p_X11_knowers_J157 h).trans hk
    · obtain ⟨x88, e88, h⟩ := bd h
      obtain ⟨x93, e93, h⟩ := bd h
      obtain ⟨x98, e98, h⟩ := bd h
      have hk := (p_X11_live e98).trans hk
      obtain ⟨b107, w107, h⟩ := bd h
      exact (p_X11_knowers_J143 h).trans hk
theorem p_X11_knowers_W62 {a0 : Nat} {l1 : Int32} {l2 : Int32} {l4 : Int32} {s62 : Int32 × Int32 × Int32 × Int32 × Mm} {b : Int32 × Int32 × Int32 × Mm} (h : whl (f_X11_knowers_L62 a0 l1 l2 l4) s62 = some b) : mm_P ((fun (q : Int32 × Int32 × Int32 × Mm) => q.2.2.2) b) = mm_P ((fun (q : Int32 × Int32 × Int32 × Int32 × Mm) => q.2.2.2.2) s62) :=
  whl_P (g := (fun (q : Int32 × Int32 × Int32 × Int32 × Mm) => q.2.2.2.2)) (gb := (fun (q : Int32 × Int32 × Int32 × Mm) => q.2.2.2)) (fun s x hx => p_X11_knowers_L62 hx) h
theorem p_X11_knowers {a0 : Nat} {l1 : Int32} {l2 : Int32} {l3 : Int32} {l4 : Int32} {μ : Mm} {x : (Int32 × Mm)} (h : f_X11_knowers a0 l1 l2 l3 l4 μ = some x) : mm_P ((fun (q : (Int32 × Mm)) => q.2) x) = mm_P μ := by
  have hk : mm_P μ = mm_P μ := rfl
  obtain ⟨_, h⟩ := ite_p h
  obtain ⟨x2, e2, h⟩ := bd h
  rcases ite_e h with ⟨_, h⟩ | ⟨_, h⟩
  · have h := Option.some.inj h
    subst h
    exact hk
  · obtain ⟨x9, e9, h⟩ := bd h
    rcases ite_e h with ⟨_, h⟩ | ⟨_, h⟩
    · have h := Option.some.inj h
      subst h
      exact hk
    · obtain ⟨x16, e16, h⟩ := bd h
      rcases ite_e h with ⟨_, h⟩ | ⟨_, h⟩
      · have h := Option.some.inj h
        subst h
        exact hk
      · obtain ⟨x26, e26, h⟩ := bd h
        rcases ite_e h with ⟨_, h⟩ | ⟨_, h⟩
        · have h := Option.some.inj h
          subst h
          exact hk
        · obtain ⟨x37, e37, h⟩ := bd h
          have hk := (p_X11_findFits e37).trans hk
          obtain ⟨x46, e46, h⟩ := bd h
          obtain ⟨x50, e50, h⟩ := bd h
          obtain ⟨v54, e54, h⟩ := bd h
          obtain ⟨b62, w62, h⟩ := bd h
          have hk := (p_X11_knowers_W62 w62).trans hk
          exact (p_X11_knowers_J163 h).trans hk
theorem p_X11_knows {a0 : Nat} {l1 : Int32} {l2 : Int32} {l3 : Int32} {μ : Mm} {x : (Int32 × Mm)} (h : f_X11_knows a0 l1 l2 l3 μ = some x) : mm_P ((fun (q : (Int32 × Mm)) => q.2) x) = mm_P μ := by
  have hk : mm_P μ = mm_P μ := rfl
  obtain ⟨_, h⟩ := ite_p h
  obtain ⟨x2, e2, h⟩ := bd h
  rcases ite_e h with ⟨_, h⟩ | ⟨_, h⟩
  · have h := Option.some.inj h
    subst h
    exact hk
  · obtain ⟨x9, e9, h⟩ := bd h
    rcases ite_e h with ⟨_, h⟩ | ⟨_, h⟩
    · have h := Option.some.inj h
      subst h
      exact hk
    · obtain ⟨x16, e16, h⟩ := bd h
      rcases ite_e h with ⟨_, h⟩ | ⟨_, h⟩
      · have h := Option.some.inj h
        subst h
        exact hk
      · obtain ⟨x27, e27, h⟩ := bd h
        obtain ⟨x31, e31, h⟩ := bd h
        obtain ⟨x34, e34, h⟩ := bd h
        obtain ⟨x38, e38, h⟩ := bd h
        have hk := (p_X11_live e38).trans hk
        obtain ⟨x42, e42, h⟩ := bd h
        obtain ⟨x46, e46, h⟩ := bd h
        have h := Option.some.inj h
        subst h
        exact hk
theorem p_X11_lot_J114 {a0 : Nat} {l5 : Int32} {k0 : Int32} {μ : Mm} {x : (Int32 × Mm)} (h : f_X11_lot_J114 a0 l5 k0 μ = some x) : mm_P ((fun (q : (Int32 × Mm)) => q.2) x) = mm_P μ := by
  have hk : mm_P μ = mm_P μ := rfl
  obtain ⟨x117, e117, h⟩ := bd h
  obtain ⟨x120, e120, h⟩ := bd h
  obtain ⟨_, h⟩ := ite_n h
  have h := Option.some.inj h
  subst h
  exact hk
theorem p_X11_lot_J100 {a0 : Nat} {l4 : Int32} {l5 : Int32} {μ : Mm} {x : (Int32 × Mm)} (h : f_X11_lot_J100 a0 l4 l5 μ = some x) : mm_P ((fun (q : (Int32 × Mm)) => q.2) x) = mm_P μ := by
  have hk : mm_P μ = mm_P μ := rfl
  rcases ite_e h with ⟨_, h⟩ | ⟨_, h⟩
  · exact (p_X11_lot_J114 h).trans hk
  · obtain ⟨x106, e106, h⟩ := bd h
    exact (p_X11_lot_J114 h).trans hk
theorem p_X11_lot_J91 {a0 : Nat} {l1 : Int32} {l2 : Int32} {l3 : Int32} {l4 : Int32} {l6 : Int32} {k0 : Int32} {k1 : Int32} {μ : Mm} {x : ((Int32 × Int32 × Mm) ⊕ (Int32 × Mm))} (h : f_X11_lot_J91 a0 l1 l2 l3 l4 l6 k0 k1 μ = some x) : mm_P ((sm (fun (q : Int32 × Int32 × Mm) => q.2.2) (fun (q : Int32 × Mm) => q.2)) x) = mm_P μ := by
  have hk : mm_P μ = mm_P μ := rfl
  obtain ⟨v92, e92, h⟩ := bd h
  obtain ⟨v94, e94, h⟩ := bd h
  have h := Option.some.inj h
  subst h
  exact hk
theorem p_X11_lot_L33 {a0 : Nat} {l1 : Int32} {l2 : Int32} {l3 : Int32} {l4 : Int32} {s33 : Int32 × Int32 × Mm} {x : ((Int32 × Int32 × Mm) ⊕ (Int32 × Mm))} (h : f_X11_lot_L33 a0 l1 l2 l3 l4 s33 = some x) : mm_P (sm (fun (q : Int32 × Int32 × Mm) => q.2.2) (fun (q : Int32 × Mm) => q.2) x) = mm_P ((fun (q : Int32 × Int32 × Mm) => q.2.2) s33) := by
  have hk : mm_P (s33.2.2) = mm_P (s33.2.2) := rfl
  obtain ⟨x36, e36, h⟩ := bd h
  rcases ite_e h with ⟨_, h⟩ | ⟨_, h⟩
  · have h := Option.some.inj h
    subst h
    exact hk
  · obtain ⟨x44, e44, h⟩ := bd h
    obtain ⟨x49, e49, h⟩ := bd h
    obtain ⟨x54, e54, h⟩ := bd h
    have hk := (p_X11_live e54).trans hk
    obtain ⟨x59, e59, h⟩ := bd h
    rcases ite_e h with ⟨_, h⟩ | ⟨_, h⟩
    · exact (p_X11_lot_J91 h).trans hk
    · obtain ⟨x78, e78, h⟩ := bd h
      obtain ⟨x82, e82, h⟩ := bd h
      rcases ite_e h with ⟨_, h⟩ | ⟨_, h⟩
      · exact (p_X11_lot_J91 h).trans hk
      · exact (p_X11_lot_J91 h).trans hk
theorem p_X11_lot_W33 {a0 : Nat} {l1 : Int32} {l2 : Int32} {l3 : Int32} {l4 : Int32} {s33 : Int32 × Int32 × Mm} {b : Int32 × Mm} (h : whl (f_X11_lot_L33 a0 l1 l2 l3 l4) s33 = some b) : mm_P ((fun (q : Int32 × Mm) => q.2) b) = mm_P ((fun (q : Int32 × Int32 × Mm) => q.2.2) s33) :=
  whl_P (g := (fun (q : Int32 × Int32 × Mm) => q.2.2)) (gb := (fun (q : Int32 × Mm) => q.2)) (fun s x hx => p_X11_lot_L33 hx) h
theorem p_X11_lot {a0 : Nat} {l1 : Int32} {l2 : Int32} {l3 : Int32} {l4 : Int32} {μ : Mm} {x : (Int32 × Mm)} (h : f_X11_lot a0 l1 l2 l3 l4 μ = some x) : mm_P ((fun (q : (Int32 × Mm)) => q.2) x) = mm_P μ := by
  have hk : mm_P μ = mm_P μ := rfl
  obtain ⟨_, h⟩ := ite_p h
  obtain ⟨x2, e2, h⟩ := bd h
  rcases ite_e h with ⟨_, h⟩ | ⟨_, h⟩
  · have h := Option.some.inj h
    subst h
    exact hk
  · obtain ⟨x9, e9, h⟩ := bd h
    rcases ite_e h with ⟨_, h⟩ | ⟨_, h⟩
    · have h := Option.some.inj h
      subst h
      exact hk
    · obtain ⟨x18, e18, h⟩ := bd h
      rcases ite_e h with ⟨_, h⟩ | ⟨_, h⟩
      · have h := Option.some.inj h
        subst h
        exact hk
      · obtain ⟨b33, w33, h⟩ := bd h
        have hk := (p_X11_lot_W33 w33).trans hk
        exact (p_X11_lot_J100 h).trans hk
theorem p_X11_allDay_L7 {a0 : Nat} {l1 : Int64} {l3 : Int32} {s7 : Int32 × Mm} {x : ((Int32 × Mm) ⊕ ((Int32 × Mm) ⊕ (Mm)))} (h : f_X11_allDay_L7 a0 l1 l3 s7 = some x) : mm_P (sm (fun (q : Int32 × Mm) => q.2) (sm (fun (q : Int32 × Mm) => q.2) (fun (q : Mm) => q)) x) = mm_P ((fun (q : Int32 × Mm) => q.2) s7) := by
  have hk : mm_P (s7.2) = mm_P (s7.2) := rfl
  rcases ite_e h with ⟨_, h⟩ | ⟨_, h⟩
  · have h := Option.some.inj h
    subst h
    exact hk
  · obtain ⟨x20, e20, h⟩ := bd h
    have hk := (p_X11_byDay e20).trans hk
    obtain ⟨x29, e29, h⟩ := bd h
    have hk := (p_X11_byNight e29).trans hk
    obtain ⟨x34, e34, h⟩ := bd h
    obtain ⟨x38, e38, h⟩ := bd h
    obtain ⟨x42, e42, h⟩ := bd h
    rcases ite_e h with ⟨_, h⟩ | ⟨_, h⟩
    · have h := Option.some.inj h
      subst h
      exact hk
    · obtain ⟨v49, e49, h⟩ := bd h
      have h := Option.some.inj h
      subst h
      exact hk
theorem p_X11_allDay_W7 {a0 : Nat} {l1 : Int64} {l3 : Int32} {s7 : Int32 × Mm} {b : (Int32 × Mm) ⊕ (Mm)} (h : whl (f_X11_allDay_L7 a0 l1 l3) s7 = some b) : mm_P ((sm (fun (q : Int32 × Mm) => q.2) (fun (q : Mm) => q)) b) = mm_P ((fun (q : Int32 × Mm) => q.2) s7) :=
  whl_P (g := (fun (q : Int32 × Mm) => q.2)) (gb := (sm (fun (q : Int32 × Mm) => q.2) (fun (q : Mm) => q))) (fun s x hx => p_X11_allDay_L7 hx) h
theorem p_X11_allDay {a0 : Nat} {l1 : Int64} {l3 : Int32} {μ : Mm} {x : (Int32 × Mm)} (h : f_X11_allDay a0 l1 l3 μ = some x) : mm_P ((fun (q : (Int32 × Mm)) => q.2) x) = mm_P μ := by
  have hk : mm_P μ = mm_P μ := rfl
  obtain ⟨_, h⟩ := ite_p h
  obtain ⟨x1, e1, h⟩ := bd h
  have hk := (p_X11_forget e1).trans hk
  obtain ⟨b7, w7, h⟩ := bd h
  have hk := (p_X11_allDay_W7 w7).trans hk
  rcases b7 with b7 | b7
  · have h := Option.some.inj h
    subst h
    exact hk
  · have h := Option.some.inj h
    subst h
    exact hk
theorem p_X11_lotDay_J58 {a0 : Nat} {l3 : Int32} {k0 : Int32} {μ : Mm} {x : (Int32 × Mm)} (h : f_X11_lotDay_J58 a0 l3 k0 μ = some x) : mm_P ((fun (q : (Int32 × Mm)) => q.2) x) = mm_P μ := by
  have hk : mm_P μ = mm_P μ := rfl
  obtain ⟨x60, e60, h⟩ := bd h
  obtain ⟨x63, e63, h⟩ := bd h
  obtain ⟨_, h⟩ := ite_n h
  have h := Option.some.inj h
  subst h
  exact hk
theorem p_X11_lotDay_J46 {a0 : Nat} {l2 : Int32} {l3 : Int32} {μ : Mm} {x : (Int32 × Mm)} (h : f_X11_lotDay_J46 a0 l2 l3 μ = some x) : mm_P ((fun (q : (Int32 × Mm)) => q.2) x) = mm_P μ := by
  have hk : mm_P μ = mm_P μ := rfl
  rcases ite_e h with ⟨_, h⟩ | ⟨_, h⟩
  · exact (p_X11_lotDay_J58 h).trans hk
  · obtain ⟨x51, e51, h⟩ := bd h
    exact (p_X11_lotDay_J58 h).trans hk
theorem p_X11_lotDay_L16 {a0 : Nat} {l1 : Int32} {l2 : Int32} {s16 : Int32 × Int32 × Mm} {x : ((Int32 × Int32 × Mm) ⊕ (Int32 × Mm))} (h : f_X11_lotDay_L16 a0 l1 l2 s16 = some x) : mm_P (sm (fun (q : Int32 × Int32 × Mm) => q.2.2) (fun (q : Int32 × Mm) => q.2) x) = mm_P ((fun (q : Int32 × Int32 × Mm) => q.2.2) s16) := by
  have hk : mm_P (s16.2.2) = mm_P (s16.2.2) := rfl
  obtain ⟨x19, e19, h⟩ := bd h
  rcases ite_e h with ⟨_, h⟩ | ⟨_, h⟩
  · have h := Option.some.inj h
    subst h
    exact hk
  · obtain ⟨x28, e28, h⟩ := bd h
    obtain ⟨x33, e33, h⟩ := bd h
    obtain ⟨x35, e35, h⟩ := bd h
    have hk := (p_X11_allDay e35).trans hk
    obtain ⟨v39, e39, h⟩ := bd h
    obtain ⟨v40, e40, h⟩ := bd h
    have h := Option.some.inj h
    subst h
    exact hk
theorem p_X11_lotDay_W16 {a0 : Nat} {l1 : Int32} {l2 : Int32} {s16 : Int32 × Int32 × Mm} {b : Int32 × Mm} (h : whl (f_X11_lotDay_L16 a0 l1 l2) s16 = some b) : mm_P ((fun (q : Int32 × Mm) => q.2) b) = mm_P ((fun (q : Int32 × Int32 × Mm) => q.2.2) s16) :=
  whl_P (g := (fun (q : Int32 × Int32 × Mm) => q.2.2)) (gb := (fun (q : Int32 × Mm) => q.2)) (fun s x hx => p_X11_lotDay_L16 hx) h
theorem p_X11_lotDay {a0 : Nat} {l1 : Int32} {l2 : Int32} {μ : Mm} {x : (Int32 × Mm)} (h : f_X11_lotDay a0 l1 l2 μ = some x) : mm_P ((fun (q : (Int32 × Mm)) => q.2) x) = mm_P μ := by
  have hk : mm_P μ = mm_P μ := rfl
  obtain ⟨_, h⟩ := ite_p h
  obtain ⟨x2, e2, h⟩ := bd h
  rcases ite_e h with ⟨_, h⟩ | ⟨_, h⟩
  · have h := Option.some.inj h
    subst h
    exact hk
  · obtain ⟨b16, w16, h⟩ := bd h
    have hk := (p_X11_lotDay_W16 w16).trans hk
    exact (p_X11_lotDay_J46 h).trans hk
theorem p_X11_metBy_J128 {a0 : Nat} {l2 : Int32} {μ : Mm} {x : (Int32 × Mm)} (h : f_X11_metBy_J128 a0 l2 μ = some x) : mm_P ((fun (q : (Int32 × Mm)) => q.2) x) = mm_P μ := by
  have hk : mm_P μ = mm_P μ := rfl
  obtain ⟨μ130, e130, h⟩ := bd h
  have hk := (kp_pfI e130).trans hk
  have h := Option.some.inj h
  subst h
  exact hk
theorem p_X11_metBy_J122 {a0 : Nat} {l2 : Int32} {l3 : Int32} {μ : Mm} {x : ((Int32 × Int32 × Mm) ⊕ (Int32 × Mm))} (h : f_X11_metBy_J122 a0 l2 l3 μ = some x) : mm_P ((sm (fun (q : Int32 × Int32 × Mm) => q.2.2) (fun (q : Int32 × Mm) => q.2)) x) = mm_P μ := by
  have hk : mm_P μ = mm_P μ := rfl
  obtain ⟨v122, e122, h⟩ := bd h
  have h := Option.some.inj h
  subst h
  exact hk
theorem p_X11_metBy_L13 {a0 : Nat} {s13 : Int32 × Int32 × Mm} {x : ((Int32 × Int32 × Mm) ⊕ (Int32 × Mm))} (h : f_X11_metBy_L13 a0 s13 = some x) : mm_P (sm (fun (q : Int32 × Int32 × Mm) => q.2.2) (fun (q : Int32 × Mm) => q.2) x) = mm_P ((fun (q : Int32 × Int32 × Mm) => q.2.2) s13) := by
  have hk : mm_P (s13.2.2) = mm_P (s13.2.2) := rfl
  rcases ite_e h with ⟨_, h⟩ | ⟨_, h⟩
  · have h := Option.some.inj h
    subst h
    exact hk
  · obtain ⟨x21, e21, h⟩ := bd h
    obtain ⟨x25, e25, h⟩ := bd h
    obtain ⟨x28, e28, h⟩ := bd h
    obtain ⟨x32, e32, h⟩ := bd h
    have hk := (p_X11_byDay e32).trans hk
    obtain ⟨x37, e37, h⟩ := bd h
    obtain ⟨x41, e41, h⟩ := bd h
    obtain ⟨x44, e44, h⟩ := bd h
    obtain ⟨x48, e48, h⟩ := bd h
    have hk := (p_X11_byNight e48).trans hk
    obtain ⟨b54, w54, h⟩ := bd h
    exact (p_X11_metBy_J122 h).trans hk
theorem p_X11_metBy_W13 {a0 : Nat} {s13 : Int32 × Int32 × Mm} {b : Int32 × Mm} (h : whl (f_X11_metBy_L13 a0) s13 = some b) : mm_P ((fun (q : Int32 × Mm) => q.2) b) = mm_P ((fun (q : Int32 × Int32 × Mm) => q.2.2) s13) :=
  whl_P (g := (fun (q : Int32 × Int32 × Mm) => q.2.2)) (gb := (fun (q : Int32 × Mm) => q.2)) (fun s x hx => p_X11_metBy_L13 hx) h
theorem p_X11_metBy {a0 : Nat} {l1 : Int32} {μ : Mm} {x : (Int32 × Mm)} (h : f_X11_metBy a0 l1 μ = some x) : mm_P ((fun (q : (Int32 × Mm)) => q.2) x) = mm_P μ := by
  have hk : mm_P μ = mm_P μ := rfl
  obtain ⟨_, h⟩ := ite_p h
  obtain ⟨μ4, e4, h⟩ := bd h
  have hk := (kp_pfI e4).trans hk
  obtain ⟨x8, e8, h⟩ := bd h
  have hk := (p_X11_forget e8).trans hk
  obtain ⟨b13, w13, h⟩ := bd h
  have hk := (p_X11_metBy_W13 w13).trans hk
  exact (p_X11_metBy_J128 h).trans hk
theorem p_X11_met {a0 : Nat} {l1 : Int32} {μ : Mm} {x : (Int32 × Mm)} (h : f_X11_met a0 l1 μ = some x) : mm_P ((fun (q : (Int32 × Mm)) => q.2) x) = mm_P μ := by
  have hk : mm_P μ = mm_P μ := rfl
  obtain ⟨_, h⟩ := ite_p h
  obtain ⟨x2, e2, h⟩ := bd h
  rcases ite_e h with ⟨_, h⟩ | ⟨_, h⟩
  · have h := Option.some.inj h
    subst h
    exact hk
  · obtain ⟨x10, e10, h⟩ := bd h
    have hk := (p_X11_metBy e10).trans hk
    have h := Option.some.inj h
    subst h
    exact hk
theorem p_X11_number_J104 {a0 : Nat} {l2 : Int64} {μ : Mm} {x : (Int32 × Mm)} (h : f_X11_number_J104 a0 l2 μ = some x) : mm_P ((fun (q : (Int32 × Mm)) => q.2) x) = mm_P μ := by
  have hk : mm_P μ = mm_P μ := rfl
  obtain ⟨x106, e106, h⟩ := bd h
  have h := Option.some.inj h
  subst h
  exact hk
theorem p_X11_number {a0 : Nat} {μ : Mm} {x : (Int32 × Mm)} (h : f_X11_number a0 μ = some x) : mm_P ((fun (q : (Int32 × Mm)) => q.2) x) = mm_P μ := by
  have hk : mm_P μ = mm_P μ := rfl
  obtain ⟨_, h⟩ := ite_p h
  obtain ⟨x1, e1, h⟩ := bd h
  obtain ⟨μ7, e7, h⟩ := bd h
  have hk := (kp_pfI e7).trans hk
  obtain ⟨x12, e12, h⟩ := bd h
  obtain ⟨x16, e16, h⟩ := bd h
  rcases ite_e h with ⟨_, h⟩ | ⟨_, h⟩
  · obtain ⟨b27, w27, h⟩ := bd h
    rcases b27 with b27 | b27
    · have h := Option.some.inj h
      subst h
      exact hk
    · exact (p_X11_number_J104 h).trans hk
  · have h := Option.some.inj h
    subst h
    exact hk
theorem p_X11_saidTo_J95 {a0 : Nat} {l1 : Int32} {l2 : Int32} {l4 : Int32} {l5 : Int32} {μ : Mm} {x : ((Int32 × Int32 × Mm) ⊕ ((Mm) ⊕ ((Int32 × Mm) ⊕ (Mm))))} (h : f_X11_saidTo_J95 a0 l1 l2 l4 l5 μ = some x) : mm_P ((sm (fun (q : Int32 × Int32 × Mm) => q.2.2) (sm (fun (q : Mm) => q) (sm (fun (q : Int32 × Mm) => q.2) (fun (q : Mm) => q)))) x) = mm_P μ := by
  have hk : mm_P μ = mm_P μ := rfl
  obtain ⟨v95, e95, h⟩ := bd h
  have h := Option.some.inj h
  subst h
  exact hk
theorem p_X11_saidTo_L18 {a0 : Nat} {l1 : Int32} {l2 : Int32} {s18 : Int32 × Int32 × Mm} {x : ((Int32 × Int32 × Mm) ⊕ ((Mm) ⊕ ((Int32 × Mm) ⊕ (Mm))))} (h : f_X11_saidTo_L18 a0 l1 l2 s18 = some x) : mm_P (sm (fun (q : Int32 × Int32 × Mm) => q.2.2) (sm (fun (q : Mm) => q) (sm (fun (q : Int32 × Mm) => q.2) (fun (q : Mm) => q))) x) = mm_P ((fun (q : Int32 × Int32 × Mm) => q.2.2) s18) := by
  have hk : mm_P (s18.2.2) = mm_P (s18.2.2) := rfl
  rcases ite_e h with ⟨_, h⟩ | ⟨_, h⟩
  · have h := Option.some.inj h
    subst h
    exact hk
  · obtain ⟨x30, e30, h⟩ := bd h
    rcases ite_e h with ⟨_, h⟩ | ⟨_, h⟩
    · obtain ⟨x42, e42, h⟩ := bd h
      rcases ite_e h with ⟨_, h⟩ | ⟨_, h⟩
      · have h := Option.some.inj h
        subst h
        exact hk
      · rcases ite_e h with ⟨_, h⟩ | ⟨_, h⟩
        · have h := Option.some.inj h
          subst h
          exact hk
        · obtain ⟨x62, e62, h⟩ := bd h
          obtain ⟨x66, e66, h⟩ := bd h
          obtain ⟨μ71, e71, h⟩ := bd h
          have hk := (kp_paI e71).trans hk
          obtain ⟨x74, e74, h⟩ := bd h
          obtain ⟨μ79, e79, h⟩ := bd h
          have hk := (kp_pfI e79).trans hk
          rcases ite_e h with ⟨_, h⟩ | ⟨_, h⟩
          · have h := Option.some.inj h
            subst h
            exact hk
          · exact (p_X11_saidTo_J95 h).trans hk
    · exact (p_X11_saidTo_J95 h).trans hk
theorem p_X11_saidTo_W18 {a0 : Nat} {l1 : Int32} {l2 : Int32} {s18 : Int32 × Int32 × Mm} {b : (Mm) ⊕ ((Int32 × Mm) ⊕ (Mm))} (h : whl (f_X11_saidTo_L18 a0 l1 l2) s18 = some b) : mm_P ((sm (fun (q : Mm) => q) (sm (fun (q : Int32 × Mm) => q.2) (fun (q : Mm) => q))) b) = mm_P ((fun (q : Int32 × Int32 × Mm) => q.2.2) s18) :=
  whl_P (g := (fun (q : Int32 × Int32 × Mm) => q.2.2)) (gb := (sm (fun (q : Mm) => q) (sm (fun (q : Int32 × Mm) => q.2) (fun (q : Mm) => q)))) (fun s x hx => p_X11_saidTo_L18 hx) h
theorem p_X11_saidTo {a0 : Nat} {l1 : Int32} {l2 : Int32} {l3 : Int32} {μ : Mm} {x : (Int32 × Mm)} (h : f_X11_saidTo a0 l1 l2 l3 μ = some x) : mm_P ((fun (q : (Int32 × Mm)) => q.2) x) = mm_P μ := by
  have hk : mm_P μ = mm_P μ := rfl
  obtain ⟨_, h⟩ := ite_p h
  obtain ⟨μ2, e2, h⟩ := bd h
  have hk := (kp_pfI e2).trans hk
  obtain ⟨x6, e6, h⟩ := bd h
  obtain ⟨μ11, e11, h⟩ := bd h
  have hk := (kp_paI e11).trans hk
  obtain ⟨b18, w18, h⟩ := bd h
  have hk := (p_X11_saidTo_W18 w18).trans hk
  rcases b18 with b18 | b18
  · have h := Option.some.inj h
    subst h
    exact hk
  · rcases b18 with b18 | b18
    · have h := Option.some.inj h
      subst h
      exact hk
    · have h := Option.some.inj h
      subst h
      exact hk
