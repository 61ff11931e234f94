theorem t_X11_all_W24 {a0 : Nat} {l1 : Int32} {l2 : Int32} {s24 : Int32 × Mm} {b : (Int32 × Mm) ⊕ (Mm)} (h : whl (f_X11_all_L24 a0 l1 l2) s24 = some b) : tl ((sm (fun (q : Int32 × Mm) => q.2) (fun (q : Mm) => q)) b) = tl ((fun (q : Int32 × Mm) => q.2) s24) :=
  whl_tl (g := (fun (q : Int32 × Mm) => q.2)) (gb := (sm (fun (q : Int32 × Mm) => q.2) (fun (q : Mm) => q))) (fun s x hx => t_X11_all_L24 hx) h
theorem t_X11_all {a0 : Nat} {l1 : Int32} {l2 : Int32} {μ : Mm} {x : (Int32 × Mm)} (h : f_X11_all a0 l1 l2 μ = some x) : tl ((fun (q : (Int32 × Mm)) => q.2) x) = tl μ := by
  have hk : tl μ = tl μ := rfl
  obtain ⟨_, h⟩ := ite_p h
  obtain ⟨x2, e2, h⟩ := bd h
  rcases ite_e h with ⟨_, h⟩ | ⟨_, h⟩
  · have h := Option.some.inj h
    subst h
    exact hk
  · obtain ⟨x9, e9, h⟩ := bd h
    rcases ite_e h with ⟨_, h⟩ | ⟨_, h⟩
    · have h := Option.some.inj h
      subst h
      exact hk
    · obtain ⟨x19, e19, h⟩ := bd h
      have hk := (t_X11_forget e19).trans hk
      obtain ⟨b24, w24, h⟩ := bd h
      have hk := (t_X11_all_W24 w24).trans hk
      rcases b24 with b24 | b24
      · have h := Option.some.inj h
        subst h
        exact hk
      · have h := Option.some.inj h
        subst h
        exact hk
theorem t_X11_allDay_L7 {a0 : Nat} {l1 : Int64} {l3 : Int32} {s7 : Int32 × Mm} {x : ((Int32 × Mm) ⊕ ((Int32 × Mm) ⊕ (Mm)))} (h : f_X11_allDay_L7 a0 l1 l3 s7 = some x) : tl (sm (fun (q : Int32 × Mm) => q.2) (sm (fun (q : Int32 × Mm) => q.2) (fun (q : Mm) => q)) x) = tl ((fun (q : Int32 × Mm) => q.2) s7) := by
  have hk : tl (s7.2) = tl (s7.2) := rfl
  rcases ite_e h with ⟨_, h⟩ | ⟨_, h⟩
  · have h := Option.some.inj h
    subst h
    exact hk
  · obtain ⟨x20, e20, h⟩ := bd h
    have hk := (t_X11_byDay e20).trans hk
    obtain ⟨x29, e29, h⟩ := bd h
    have hk := (t_X11_byNight e29).trans hk
    obtain ⟨x34, e34, h⟩ := bd h
    obtain ⟨x38, e38, h⟩ := bd h
    obtain ⟨x42, e42, h⟩ := bd h
    rcases ite_e h with ⟨_, h⟩ | ⟨_, h⟩
    · have h := Option.some.inj h
      subst h
      exact hk
    · obtain ⟨v49, e49, h⟩ := bd h
      have h := Option.some.inj h
      subst h
      exact hk
theorem t_X11_allDay_W7 {a0 : Nat} {l1 : Int64} {l3 : Int32} {s7 : Int32 × Mm} {b : (Int32 × Mm) ⊕ (Mm)} (h : whl (f_X11_allDay_L7 a0 l1 l3) s7 = some b) : tl ((sm (fun (q : Int32 × Mm) => q.2) (fun (q : Mm) => q)) b) = tl ((fun (q : Int32 × Mm) => q.2) s7) :=
  whl_tl (g := (fun (q : Int32 × Mm) => q.2)) (gb := (sm (fun (q : Int32 × Mm) => q.2) (fun (q : Mm) => q))) (fun s x hx => t_X11_allDay_L7 hx) h
theorem t_X11_allDay {a0 : Nat} {l1 : Int64} {l3 : Int32} {μ : Mm} {x : (Int32 × Mm)} (h : f_X11_allDay a0 l1 l3 μ = some x) : tl ((fun (q : (Int32 × Mm)) => q.2) x) = tl μ := by
  have hk : tl μ = tl μ := rfl
  obtain ⟨_, h⟩ := ite_p h
  obtain ⟨x1, e1, h⟩ := bd h
  have hk := (t_X11_forget e1).trans hk
  obtain ⟨b7, w7, h⟩ := bd h
  have hk := (t_X11_allDay_W7 w7).trans hk
  rcases b7 with b7 | b7
  · have h := Option.some.inj h
    subst h
    exact hk
  · have h := Option.some.inj h
    subst h
    exact hk
theorem t_X11_countFits_J156 {a0 : Nat} {l1 : Int32} {μ : Mm} {x : ((Int32 × Mm) ⊕ (Mm))} (h : f_X11_countFits_J156 a0 l1 μ = some x) : tl ((sm (fun (q : Int32 × Mm) => q.2) (fun (q : Mm) => q)) x) = tl μ := by
  have hk : tl μ = tl μ := rfl
  obtain ⟨v156, e156, h⟩ := bd h
  have h := Option.some.inj h
  subst h
  exact hk
theorem t_X11_countFits_J137 {a0 : Nat} {l1 : Int32} {l2 : Int32} {μ : Mm} {x : ((Int32 × Mm) ⊕ (Mm))} (h : f_X11_countFits_J137 a0 l1 l2 μ = some x) : tl ((sm (fun (q : Int32 × Mm) => q.2) (fun (q : Mm) => q)) x) = tl μ := by
  have hk : tl μ = tl μ := rfl
  obtain ⟨x139, e139, h⟩ := bd h
  obtain ⟨x143, e143, h⟩ := bd h
  obtain ⟨x147, e147, h⟩ := bd h
  have hk := (t_X11_byNight e147).trans hk
  obtain ⟨v150, e150, h⟩ := bd h
  have h := Option.some.inj h
  subst h
  exact hk
theorem t_X11_countFits_J131 {a0 : Nat} {l1 : Int32} {l2 : Int32} {l3 : Int32} {μ : Mm} {x : ((Int32 × Mm) ⊕ (Mm))} (h : f_X11_countFits_J131 a0 l1 l2 l3 μ = some x) : tl ((sm (fun (q : Int32 × Mm) => q.2) (fun (q : Mm) => q)) x) = tl μ := by
  have hk : tl μ = tl μ := rfl
  obtain ⟨v131, e131, h⟩ := bd h
  have h := Option.some.inj h
  subst h
  exact hk
theorem t_X11_countFits_L83 {a0 : Nat} {l1 : Int32} {l2 : Int32} {l3 : Int32} {s83 : Int32 × Mm} {x : ((Int32 × Mm) ⊕ (Mm))} (h : f_X11_countFits_L83 a0 l1 l2 l3 s83 = some x) : tl (sm (fun (q : Int32 × Mm) => q.2) (fun (q : Mm) => q) x) = tl ((fun (q : Int32 × Mm) => q.2) s83) := by
  have hk : tl (s83.2) = tl (s83.2) := rfl
  obtain ⟨x86, e86, h⟩ := bd h
  obtain ⟨x90, e90, h⟩ := bd h
  rcases ite_e h with ⟨_, h⟩ | ⟨_, h⟩
  · have h := Option.some.inj h
    subst h
    exact hk
  · obtain ⟨x95, e95, h⟩ := bd h
    obtain ⟨x111, e111, h⟩ := bd h
    obtain ⟨x113, e113, h⟩ := bd h
    obtain ⟨x117, e117, h⟩ := bd h
    obtain ⟨μ124, e124, h⟩ := bd h
    have hk := (kq_paI e124).trans hk
    obtain ⟨v125, e125, h⟩ := bd h
    have h := Option.some.inj h
    subst h
    exact hk
theorem t_X11_countFits_W83 {a0 : Nat} {l1 : Int32} {l2 : Int32} {l3 : Int32} {s83 : Int32 × Mm} {b : Mm} (h : whl (f_X11_countFits_L83 a0 l1 l2 l3) s83 = some b) : tl ((fun (q : Mm) => q) b) = tl ((fun (q : Int32 × Mm) => q.2) s83) :=
  whl_tl (g := (fun (q : Int32 × Mm) => q.2)) (gb := (fun (q : Mm) => q)) (fun s x hx => t_X11_countFits_L83 hx) h
theorem t_X11_countFits_L70 {a0 : Nat} {l1 : Int32} {l2 : Int32} {s70 : Int32 × Mm} {x : ((Int32 × Mm) ⊕ (Mm))} (h : f_X11_countFits_L70 a0 l1 l2 s70 = some x) : tl (sm (fun (q : Int32 × Mm) => q.2) (fun (q : Mm) => q) x) = tl ((fun (q : Int32 × Mm) => q.2) s70) := by
  have hk : tl (s70.2) = tl (s70.2) := rfl
  obtain ⟨x72, e72, h⟩ := bd h
  obtain ⟨x76, e76, h⟩ := bd h
  rcases ite_e h with ⟨_, h⟩ | ⟨_, h⟩
  · have h := Option.some.inj h
    subst h
    exact hk
  · obtain ⟨b83, w83, h⟩ := bd h
    have hk := (t_X11_countFits_W83 w83).trans hk
    exact (t_X11_countFits_J131 h).trans hk
theorem t_X11_countFits_W70 {a0 : Nat} {l1 : Int32} {l2 : Int32} {s70 : Int32 × Mm} {b : Mm} (h : whl (f_X11_countFits_L70 a0 l1 l2) s70 = some b) : tl ((fun (q : Mm) => q) b) = tl ((fun (q : Int32 × Mm) => q.2) s70) :=
  whl_tl (g := (fun (q : Int32 × Mm) => q.2)) (gb := (fun (q : Mm) => q)) (fun s x hx => t_X11_countFits_L70 hx) h
theorem t_X11_countFits_L49 {a0 : Nat} {l1 : Int32} {s49 : Int32 × Mm} {x : ((Int32 × Mm) ⊕ (Mm))} (h : f_X11_countFits_L49 a0 l1 s49 = some x) : tl (sm (fun (q : Int32 × Mm) => q.2) (fun (q : Mm) => q) x) = tl ((fun (q : Int32 × Mm) => q.2) s49) := by
  have hk : tl (s49.2) = tl (s49.2) := rfl
  rcases ite_e h with ⟨_, h⟩ | ⟨_, h⟩
  · have h := Option.some.inj h
    subst h
    exact hk
  · obtain ⟨x57, e57, h⟩ := bd h
    obtain ⟨x61, e61, h⟩ := bd h
    obtain ⟨x65, e65, h⟩ := bd h
    have hk := (t_X11_byDay e65).trans hk
    obtain ⟨b70, w70, h⟩ := bd h
    have hk := (t_X11_countFits_W70 w70).trans hk
    exact (t_X11_countFits_J137 h).trans hk
theorem t_X11_countFits_W49 {a0 : Nat} {l1 : Int32} {s49 : Int32 × Mm} {b : Mm} (h : whl (f_X11_countFits_L49 a0 l1) s49 = some b) : tl ((fun (q : Mm) => q) b) = tl ((fun (q : Int32 × Mm) => q.2) s49) :=
  whl_tl (g := (fun (q : Int32 × Mm) => q.2)) (gb := (fun (q : Mm) => q)) (fun s x hx => t_X11_countFits_L49 hx) h
theorem t_X11_countFits_L24 {a0 : Nat} {s24 : Int32 × Mm} {x : ((Int32 × Mm) ⊕ (Mm))} (h : f_X11_countFits_L24 a0 s24 = some x) : tl (sm (fun (q : Int32 × Mm) => q.2) (fun (q : Mm) => q) x) = tl ((fun (q : Int32 × Mm) => q.2) s24) := by
  have hk : tl (s24.2) = tl (s24.2) := rfl
  obtain ⟨x26, e26, h⟩ := bd h
  rcases ite_e h with ⟨_, h⟩ | ⟨_, h⟩
  · have h := Option.some.inj h
    subst h
    exact hk
  · obtain ⟨x34, e34, h⟩ := bd h
    rcases ite_e h with ⟨_, h⟩ | ⟨_, h⟩
    · exact (t_X11_countFits_J156 h).trans hk
    · obtain ⟨x44, e44, h⟩ := bd h
      have hk := (t_X11_forget e44).trans hk
      obtain ⟨b49, w49, h⟩ := bd h
      have hk := (t_X11_countFits_W49 w49).trans hk
      exact (t_X11_countFits_J156 h).trans hk
theorem t_X11_countFits_W24 {a0 : Nat} {s24 : Int32 × Mm} {b : Mm} (h : whl (f_X11_countFits_L24 a0) s24 = some b) : tl ((fun (q : Mm) => q) b) = tl ((fun (q : Int32 × Mm) => q.2) s24) :=
  whl_tl (g := (fun (q : Int32 × Mm) => q.2)) (gb := (fun (q : Mm) => q)) (fun s x hx => t_X11_countFits_L24 hx) h
theorem t_X11_countFits_J22 {a0 : Nat} {μ : Mm} {x : Mm} (h : f_X11_countFits_J22 a0 μ = some x) : tl ((fun (q : Mm) => q) x) = tl μ := by
  have hk : tl μ = tl μ := rfl
  obtain ⟨b24, w24, h⟩ := bd h
  have hk := (t_X11_countFits_W24 w24).trans hk
  have h := Option.some.inj h
  subst h
  exact hk
theorem t_X11_countFits_L2 {a0 : Nat} {s2 : Int32 × Mm} {x : ((Int32 × Mm) ⊕ (Mm))} (h : f_X11_countFits_L2 a0 s2 = some x) : tl (sm (fun (q : Int32 × Mm) => q.2) (fun (q : Mm) => q) x) = tl ((fun (q : Int32 × Mm) => q.2) s2) := by
  have hk : tl (s2.2) = tl (s2.2) := rfl
  rcases ite_e h with ⟨_, h⟩ | ⟨_, h⟩
  · have h := Option.some.inj h
    subst h
    exact hk
  · obtain ⟨x10, e10, h⟩ := bd h
    obtain ⟨μ15, e15, h⟩ := bd h
    have hk := (kq_paI e15).trans hk
    obtain ⟨v16, e16, h⟩ := bd h
    have h := Option.some.inj h
    subst h
    exact hk
theorem t_X11_countFits_W2 {a0 : Nat} {s2 : Int32 × Mm} {b : Mm} (h : whl (f_X11_countFits_L2 a0) s2 = some b) : tl ((fun (q : Mm) => q) b) = tl ((fun (q : Int32 × Mm) => q.2) s2) :=
  whl_tl (g := (fun (q : Int32 × Mm) => q.2)) (gb := (fun (q : Mm) => q)) (fun s x hx => t_X11_countFits_L2 hx) h
theorem t_X11_countFits {a0 : Nat} {μ : Mm} {x : Mm} (h : f_X11_countFits a0 μ = some x) : tl ((fun (q : Mm) => q) x) = tl μ := by
  have hk : tl μ = tl μ := rfl
  obtain ⟨_, h⟩ := ite_p h
  obtain ⟨b2, w2, h⟩ := bd h
  have hk := (t_X11_countFits_W2 w2).trans hk
  exact (t_X11_countFits_J22 h).trans hk
theorem t_X11_fits_L60 {a0 : Nat} {l1 : Int64} {l3 : Int32} {l4 : Int32} {s60 : Int32 × Mm} {x : ((Int32 × Mm) ⊕ ((Mm) ⊕ (Mm)))} (h : f_X11_fits_L60 a0 l1 l3 l4 s60 = some x) : tl (sm (fun (q : Int32 × Mm) => q.2) (sm (fun (q : Mm) => q) (fun (q : Mm) => q)) x) = tl ((fun (q : Int32 × Mm) => q.2) s60) := by
  have hk : tl (s60.2) = tl (s60.2) := rfl
  rcases ite_e h with ⟨_, h⟩ | ⟨_, h⟩
  · have h := Option.some.inj h
    subst h
    exact hk
  · obtain ⟨x73, e73, h⟩ := bd h
    have hk := (t_X11_byDay e73).trans hk
    obtain ⟨x80, e80, h⟩ := bd h
    rcases ite_e h with ⟨_, h⟩ | ⟨_, h⟩
    · have h := Option.some.inj h
      subst h
      exact hk
    · obtain ⟨x94, e94, h⟩ := bd h
      have hk := (t_X11_byNight e94).trans hk
      obtain ⟨v97, e97, h⟩ := bd h
      have h := Option.some.inj h
      subst h
      exact hk
theorem t_X11_fits_W60 {a0 : Nat} {l1 : Int64} {l3 : Int32} {l4 : Int32} {s60 : Int32 × Mm} {b : (Mm) ⊕ (Mm)} (h : whl (f_X11_fits_L60 a0 l1 l3 l4) s60 = some b) : tl ((sm (fun (q : Mm) => q) (fun (q : Mm) => q)) b) = tl ((fun (q : Int32 × Mm) => q.2) s60) :=
  whl_tl (g := (fun (q : Int32 × Mm) => q.2)) (gb := (sm (fun (q : Mm) => q) (fun (q : Mm) => q))) (fun s x hx => t_X11_fits_L60 hx) h
theorem t_X11_fits_J53 {a0 : Nat} {l1 : Int64} {l3 : Int32} {l4 : Int32} {μ : Mm} {x : (Int32 × Mm)} (h : f_X11_fits_J53 a0 l1 l3 l4 μ = some x) : tl ((fun (q : (Int32 × Mm)) => q.2) x) = tl μ := by
  have hk : tl μ = tl μ := rfl
  obtain ⟨x54, e54, h⟩ := bd h
  have hk := (t_X11_forget e54).trans hk
  obtain ⟨b60, w60, h⟩ := bd h
  have hk := (t_X11_fits_W60 w60).trans hk
  rcases b60 with b60 | b60
  · have h := Option.some.inj h
    subst h
    exact hk
  · have h := Option.some.inj h
    subst h
    exact hk
theorem t_X11_fits {a0 : Nat} {l1 : Int64} {l3 : Int32} {μ : Mm} {x : (Int32 × Mm)} (h : f_X11_fits a0 l1 l3 μ = some x) : tl ((fun (q : (Int32 × Mm)) => q.2) x) = tl μ := by
  have hk : tl μ = tl μ := rfl
  obtain ⟨_, h⟩ := ite_p h
  obtain ⟨b6, w6, h⟩ := bd h
  exact (t_X11_fits_J53 h).trans hk
theorem t_X11_findFits_J72 {a0 : Nat} {l1 : Int32} {l2 : Int32} {l3 : Int32} {μ : Mm} {x : ((Int32 × Int32 × Mm) ⊕ (Int32 × Mm))} (h : f_X11_findFits_J72 a0 l1 l2 l3 μ = some x) : tl ((sm (fun (q : Int32 × Int32 × Mm) => q.2.2) (fun (q : Int32 × Mm) => q.2)) x) = tl μ := by
  have hk : tl μ = tl μ := rfl
  obtain ⟨v72, e72, h⟩ := bd h
  have h := Option.some.inj h
  subst h
  exact hk
theorem t_X11_findFits_L26 {a0 : Nat} {l1 : Int32} {s26 : Int32 × Int32 × Mm} {x : ((Int32 × Int32 × Mm) ⊕ (Int32 × Mm))} (h : f_X11_findFits_L26 a0 l1 s26 = some x) : tl (sm (fun (q : Int32 × Int32 × Mm) => q.2.2) (fun (q : Int32 × Mm) => q.2) x) = tl ((fun (q : Int32 × Int32 × Mm) => q.2.2) s26) := by
  have hk : tl (s26.2.2) = tl (s26.2.2) := rfl
  obtain ⟨x28, e28, h⟩ := bd h
  rcases ite_e h with ⟨_, h⟩ | ⟨_, h⟩
  · have h := Option.some.inj h
    subst h
    exact hk
  · obtain ⟨x36, e36, h⟩ := bd h
    obtain ⟨x40, e40, h⟩ := bd h
    obtain ⟨x42, e42, h⟩ := bd h
    have hk := (t_X11_fits e42).trans hk
    rcases ite_e h with ⟨_, h⟩ | ⟨_, h⟩
    · exact (t_X11_findFits_J72 h).trans hk
    · obtain ⟨x52, e52, h⟩ := bd h
      obtain ⟨x60, e60, h⟩ := bd h
      obtain ⟨μ68, e68, h⟩ := bd h
      have hk := (kq_paL e68).trans hk
      obtain ⟨v69, e69, h⟩ := bd h
      exact (t_X11_findFits_J72 h).trans hk
theorem t_X11_findFits_W26 {a0 : Nat} {l1 : Int32} {s26 : Int32 × Int32 × Mm} {b : Int32 × Mm} (h : whl (f_X11_findFits_L26 a0 l1) s26 = some b) : tl ((fun (q : Int32 × Mm) => q.2) b) = tl ((fun (q : Int32 × Int32 × Mm) => q.2.2) s26) :=
  whl_tl (g := (fun (q : Int32 × Int32 × Mm) => q.2.2)) (gb := (fun (q : Int32 × Mm) => q.2)) (fun s x hx => t_X11_findFits_L26 hx) h
theorem t_X11_findFits_J24 {a0 : Nat} {l1 : Int32} {l2 : Int32} {μ : Mm} {x : (Int32 × Mm)} (h : f_X11_findFits_J24 a0 l1 l2 μ = some x) : tl ((fun (q : (Int32 × Mm)) => q.2) x) = tl μ := by
  have hk : tl μ = tl μ := rfl
  obtain ⟨b26, w26, h⟩ := bd h
  have hk := (t_X11_findFits_W26 w26).trans hk
  have h := Option.some.inj h
  subst h
  exact hk
theorem t_X11_findFits_L4 {a0 : Nat} {l1 : Int32} {l2 : Int32} {s4 : Int32 × Mm} {x : ((Int32 × Mm) ⊕ (Mm))} (h : f_X11_findFits_L4 a0 l1 l2 s4 = some x) : tl (sm (fun (q : Int32 × Mm) => q.2) (fun (q : Mm) => q) x) = tl ((fun (q : Int32 × Mm) => q.2) s4) := by
  have hk : tl (s4.2) = tl (s4.2) := rfl
  rcases ite_e h with ⟨_, h⟩ | ⟨_, h⟩
  · have h := Option.some.inj h
    subst h
    exact hk
  · obtain ⟨x12, e12, h⟩ := bd h
    obtain ⟨μ17, e17, h⟩ := bd h
    have hk := (kq_paL e17).trans hk
    obtain ⟨v18, e18, h⟩ := bd h
    have h := Option.some.inj h
    subst h
    exact hk
theorem t_X11_findFits_W4 {a0 : Nat} {l1 : Int32} {l2 : Int32} {s4 : Int32 × Mm} {b : Mm} (h : whl (f_X11_findFits_L4 a0 l1 l2) s4 = some b) : tl ((fun (q : Mm) => q) b) = tl ((fun (q : Int32 × Mm) => q.2) s4) :=
  whl_tl (g := (fun (q : Int32 × Mm) => q.2)) (gb := (fun (q : Mm) => q)) (fun s x hx => t_X11_findFits_L4 hx) h
theorem t_X11_findFits {a0 : Nat} {l1 : Int32} {μ : Mm} {x : (Int32 × Mm)} (h : f_X11_findFits a0 l1 μ = some x) : tl ((fun (q : (Int32 × Mm)) => q.2) x) = tl μ := by
  have hk : tl μ = tl μ := rfl
  obtain ⟨_, h⟩ := ite_p h
  obtain ⟨b4, w4, h⟩ := bd h
  have hk := (t_X11_findFits_W4 w4).trans hk
  exact (t_X11_findFits_J24 h).trans hk
theorem t_X11_ask_J154 {l1 : Int32} {l4 : Int32} {μ : Mm} {x : (Int32 × Mm)} (h : f_X11_ask_J154 l1 l4 μ = some x) : tl ((fun (q : (Int32 × Mm)) => q.2) x) = tl μ := by
  have hk : tl μ = tl μ := rfl
  rcases ite_e h with ⟨_, h⟩ | ⟨_, h⟩
  · have h := Option.some.inj h
    subst h
    exact hk
  · rcases ite_e h with ⟨_, h⟩ | ⟨_, h⟩
    · have h := Option.some.inj h
      subst h
      exact hk
    · rcases ite_e h with ⟨_, h⟩ | ⟨_, h⟩
      · have h := Option.some.inj h
        subst h
        exact hk
      · have h := Option.some.inj h
        subst h
        exact hk
theorem t_X11_ask {a0 : Nat} {l1 : Int32} {μ : Mm} {x : (Int32 × Mm)} (h : f_X11_ask a0 l1 μ = some x) : tl ((fun (q : (Int32 × Mm)) => q.2) x) = tl μ := by
  have hk : tl μ = tl μ := rfl
  obtain ⟨_, h⟩ := ite_p h
  obtain ⟨x3, e3, h⟩ := bd h
  rcases ite_e h with ⟨_, h⟩ | ⟨_, h⟩
  · have h := Option.some.inj h
    subst h
    exact hk
  · obtain ⟨x16, e16, h⟩ := bd h
    have hk := (t_X11_findFits e16).trans hk
    obtain ⟨x21, e21, h⟩ := bd h
    have hk := (t_X11_countFits e21).trans hk
    obtain ⟨b32, w32, h⟩ := bd h
    exact (t_X11_ask_J154 h).trans hk
theorem t_X11_begin_J67 {a0 : Nat} {μ : Mm} {x : Mm} (h : f_X11_begin_J67 a0 μ = some x) : tl ((fun (q : Mm) => q) x) = tl μ := by
  have hk : tl μ = tl μ := rfl
  obtain ⟨μ69, e69, h⟩ := bd h
  have hk := (kq_pfI e69).trans hk
  have h := Option.some.inj h
  subst h
  exact hk
theorem t_X11_begin_L35 {a0 : Nat} {s35 : Int32 × Mm} {x : ((Int32 × Mm) ⊕ (Mm))} (h : f_X11_begin_L35 a0 s35 = some x) : tl (sm (fun (q : Int32 × Mm) => q.2) (fun (q : Mm) => q) x) = tl ((fun (q : Int32 × Mm) => q.2) s35) := by
  have hk : tl (s35.2) = tl (s35.2) := rfl
  rcases ite_e h with ⟨_, h⟩ | ⟨_, h⟩
  · have h := Option.some.inj h
    subst h
    exact hk
  · obtain ⟨x42, e42, h⟩ := bd h
    obtain ⟨μ50, e50, h⟩ := bd h
    have hk := (kq_paI e50).trans hk
    obtain ⟨x52, e52, h⟩ := bd h
    obtain ⟨μ60, e60, h⟩ := bd h
    have hk := (kq_paI e60).trans hk
    obtain ⟨v61, e61, h⟩ := bd h
    have h := Option.some.inj h
    subst h
    exact hk
theorem t_X11_begin_W35 {a0 : Nat} {s35 : Int32 × Mm} {b : Mm} (h : whl (f_X11_begin_L35 a0) s35 = some b) : tl ((fun (q : Mm) => q) b) = tl ((fun (q : Int32 × Mm) => q.2) s35) :=
  whl_tl (g := (fun (q : Int32 × Mm) => q.2)) (gb := (fun (q : Mm) => q)) (fun s x hx => t_X11_begin_L35 hx) h
theorem t_X11_begin_J24 {a0 : Nat} {μ : Mm} {x : Mm} (h : f_X11_begin_J24 a0 μ = some x) : tl ((fun (q : Mm) => q) x) = tl μ := by
  have hk : tl μ = tl μ := rfl
  obtain ⟨x25, e25, h⟩ := bd h
  obtain ⟨μ32, e32, h⟩ := bd h
  have hk := (kq_paI e32).trans hk
  obtain ⟨b35, w35, h⟩ := bd h
  have hk := (t_X11_begin_W35 w35).trans hk
  exact (t_X11_begin_J67 h).trans hk
theorem t_X11_begin_L2 {a0 : Nat} {s2 : Int32 × Mm} {x : ((Int32 × Mm) ⊕ (Mm))} (h : f_X11_begin_L2 a0 s2 = some x) : tl (sm (fun (q : Int32 × Mm) => q.2) (fun (q : Mm) => q) x) = tl ((fun (q : Int32 × Mm) => q.2) s2) := by
  have hk : tl (s2.2) = tl (s2.2) := rfl
  rcases ite_e h with ⟨_, h⟩ | ⟨_, h⟩
  · have h := Option.some.inj h
    subst h
    exact hk
  · obtain ⟨x9, e9, h⟩ := bd h
    obtain ⟨μ17, e17, h⟩ := bd h
    have hk := (kq_paI e17).trans hk
    obtain ⟨v18, e18, h⟩ := bd h
    have h := Option.some.inj h
    subst h
    exact hk
theorem t_X11_begin_W2 {a0 : Nat} {s2 : Int32 × Mm} {b : Mm} (h : whl (f_X11_begin_L2 a0) s2 = some b) : tl ((fun (q : Mm) => q) b) = tl ((fun (q : Int32 × Mm) => q.2) s2) :=
  whl_tl (g := (fun (q : Int32 × Mm) => q.2)) (gb := (fun (q : Mm) => q)) (fun s x hx => t_X11_begin_L2 hx) h
theorem t_X11_begin {a0 : Nat} {μ : Mm} {x : Mm} (h : f_X11_begin a0 μ = some x) : tl ((fun (q : Mm) => q) x) = tl μ := by
  have hk : tl μ = tl μ := rfl
  obtain ⟨_, h⟩ := ite_p h
  obtain ⟨b2, w2, h⟩ := bd h
  have hk := (t_X11_begin_W2 w2).trans hk
  exact (t_X11_begin_J24 h).trans hk
theorem t_X11_begin__L33 {a0 : Nat} {s33 : Int32 × Mm} {x : ((Int32 × Mm) ⊕ (Mm))} (h : f_X11_begin__L33 a0 s33 = some x) : tl (sm (fun (q : Int32 × Mm) => q.2) (fun (q : Mm) => q) x) = tl ((fun (q : Int32 × Mm) => q.2) s33) := by
  have hk : tl (s33.2) = tl (s33.2) := rfl
  rcases ite_e h with ⟨_, h⟩ | ⟨_, h⟩
  · have h := Option.some.inj h
    subst h
    exact hk
  · obtain ⟨x40, e40, h⟩ := bd h
    obtain ⟨μ45, e45, h⟩ := bd h
    have hk := (kq_paI e45).trans hk
    obtain ⟨v46, e46, h⟩ := bd h
    have h := Option.some.inj h
    subst h
    exact hk
theorem t_X11_begin__W33 {a0 : Nat} {s33 : Int32 × Mm} {b : Mm} (h : whl (f_X11_begin__L33 a0) s33 = some b) : tl ((fun (q : Mm) => q) b) = tl ((fun (q : Int32 × Mm) => q.2) s33) :=
  whl_tl (g := (fun (q : Int32 × Mm) => q.2)) (gb := (fun (q : Mm) => q)) (fun s x hx => t_X11_begin__L33 hx) h
theorem t_X11_begin_ {a0 : Nat} {l1 : Int32} {μ : Mm} {x : (Int32 × Mm)} (h : f_X11_begin_ a0 l1 μ = some x) : tl ((fun (q : (Int32 × Mm)) => q.2) x) = tl μ := by
  have hk : tl μ = tl μ := rfl
  obtain ⟨_, h⟩ := ite_p h
  rcases ite_e h with ⟨_, h⟩ | ⟨_, h⟩
  · obtain ⟨μ10, e10, h⟩ := bd h
    have hk := (kq_pfL e10).trans hk
    obtain ⟨μ15, e15, h⟩ := bd h
    have hk := (kq_pfZ e15).trans hk
    obtain ⟨x20, e20, h⟩ := bd h
    obtain ⟨μ23, e23, h⟩ := bd h
    have hk := (kq_pfI e23).trans hk
    obtain ⟨μ28, e28, h⟩ := bd h
    have hk := (kq_pfI e28).trans hk
    obtain ⟨b33, w33, h⟩ := bd h
    have hk := (t_X11_begin__W33 w33).trans hk
    have h := Option.some.inj h
    subst h
    exact hk
  · have h := Option.some.inj h
    subst h
    exact hk
theorem t_X11_comes_L2 {l0 : Nat} {l1 : Int32} {s2 : Int32 × Mm} {x : ((Int32 × Mm) ⊕ (Mm))} (h : f_X11_comes_L2 l0 l1 s2 = some x) : tl (sm (fun (q : Int32 × Mm) => q.2) (fun (q : Mm) => q) x) = tl ((fun (q : Int32 × Mm) => q.2) s2) := by
  have hk : tl (s2.2) = tl (s2.2) := rfl
  rcases ite_e h with ⟨_, h⟩ | ⟨_, h⟩
  · have h := Option.some.inj h
    subst h
    exact hk
  · obtain ⟨x13, e13, h⟩ := bd h
    obtain ⟨μ14, e14, h⟩ := bd h
    have hk := (kq_paI e14).trans hk
    obtain ⟨v15, e15, h⟩ := bd h
    have h := Option.some.inj h
    subst h
    exact hk
theorem t_X11_comes_W2 {l0 : Nat} {l1 : Int32} {s2 : Int32 × Mm} {b : Mm} (h : whl (f_X11_comes_L2 l0 l1) s2 = some b) : tl ((fun (q : Mm) => q) b) = tl ((fun (q : Int32 × Mm) => q.2) s2) :=
  whl_tl (g := (fun (q : Int32 × Mm) => q.2)) (gb := (fun (q : Mm) => q)) (fun s x hx => t_X11_comes_L2 hx) h
theorem t_X11_comes {l0 : Nat} {l1 : Int32} {μ : Mm} {x : Mm} (h : f_X11_comes l0 l1 μ = some x) : tl ((fun (q : Mm) => q) x) = tl μ := by
  have hk : tl μ = tl μ := rfl
  obtain ⟨b2, w2, h⟩ := bd h
  have hk := (t_X11_comes_W2 w2).trans hk
  have h := Option.some.inj h
  subst h
  exact hk
theorem t_X11_live_J42 {a0 : Nat} {l1 : Int64} {l3 : Int32} {l4 : Int32} {l5 : Int32} {l6 : Int32} {μ : Mm} {x : ((Int32 × Mm) ⊕ (Mm))} (h : f_X11_live_J42 a0 l1 l3 l4 l5 l6 μ = some x) : tl ((sm (fun (q : Int32 × Mm) => q.2) (fun (q : Mm) => q)) x) = tl μ := by
  have hk : tl μ = tl μ := rfl
  obtain ⟨v42, e42, h⟩ := bd h
  have h := Option.some.inj h
  subst h
  exact hk
theorem t_X11_live_J33 {a0 : Nat} {l1 : Int64} {l3 : Int32} {l4 : Int32} {l5 : Int32} {l6 : Int32} {μ : Mm} {x : ((Int32 × Mm) ⊕ (Mm))} (h : f_X11_live_J33 a0 l1 l3 l4 l5 l6 μ = some x) : tl ((sm (fun (q : Int32 × Mm) => q.2) (fun (q : Mm) => q)) x) = tl μ := by
  have hk : tl μ = tl μ := rfl
  obtain ⟨x39, e39, h⟩ := bd h
  have hk := (t_X11_byNight e39).trans hk
  exact (t_X11_live_J42 h).trans hk
theorem t_X11_live_L7 {a0 : Nat} {l1 : Int64} {l3 : Int32} {l4 : Int32} {l5 : Int32} {s7 : Int32 × Mm} {x : ((Int32 × Mm) ⊕ (Mm))} (h : f_X11_live_L7 a0 l1 l3 l4 l5 s7 = some x) : tl (sm (fun (q : Int32 × Mm) => q.2) (fun (q : Mm) => q) x) = tl ((fun (q : Int32 × Mm) => q.2) s7) := by
  have hk : tl (s7.2) = tl (s7.2) := rfl
  rcases ite_e h with ⟨_, h⟩ | ⟨_, h⟩
  · have h := Option.some.inj h
    subst h
    exact hk
  · obtain ⟨x19, e19, h⟩ := bd h
    have hk := (t_X11_byDay e19).trans hk
    rcases ite_e h with ⟨_, h⟩ | ⟨_, h⟩
    · exact (t_X11_live_J33 h).trans hk
    · rcases ite_e h with ⟨_, h⟩ | ⟨_, h⟩
      · exact (t_X11_live_J42 h).trans hk
      · exact (t_X11_live_J33 h).trans hk
theorem t_X11_live_W7 {a0 : Nat} {l1 : Int64} {l3 : Int32} {l4 : Int32} {l5 : Int32} {s7 : Int32 × Mm} {b : Mm} (h : whl (f_X11_live_L7 a0 l1 l3 l4 l5) s7 = some b) : tl ((fun (q : Mm) => q) b) = tl ((fun (q : Int32 × Mm) => q.2) s7) :=
  whl_tl (g := (fun (q : Int32 × Mm) => q.2)) (gb := (fun (q : Mm) => q)) (fun s x hx => t_X11_live_L7 hx) h
theorem t_X11_live {a0 : Nat} {l1 : Int64} {l3 : Int32} {l4 : Int32} {l5 : Int32} {μ : Mm} {x : Mm} (h : f_X11_live a0 l1 l3 l4 l5 μ = some x) : tl ((fun (q : Mm) => q) x) = tl μ := by
  have hk : tl μ = tl μ := rfl
  obtain ⟨_, h⟩ := ite_p h
  obtain ⟨x1, e1, h⟩ := bd h
  have hk := (t_X11_forget e1).trans hk
  obtain ⟨b7, w7, h⟩ := bd h
  have hk := (t_X11_live_W7 w7).trans hk
  have h := Option.some.inj h
  subst h
  exact hk
theorem t_X11_comes_ {a0 : Nat} {l1 : Int32} {l2 : Int32} {l3 : Int32} {l4 : Int32} {μ : Mm} {x : (Int32 × Mm)} (h : f_X11_comes_ a0 l1 l2 l3 l4 μ = some x) : tl ((fun (q : (Int32 × Mm)) => q.2) x) = tl μ := by
  have hk : tl μ = tl μ := rfl
  obtain ⟨_, h⟩ := ite_p h
  obtain ⟨x2, e2, h⟩ := bd h
  rcases ite_e h with ⟨_, h⟩ | ⟨_, h⟩
  · have h := Option.some.inj h
    subst h
    exact hk
  · obtain ⟨x10, e10, h⟩ := bd h
    rcases ite_e h with ⟨_, h⟩ | ⟨_, h⟩
    · have h := Option.some.inj h
      subst h
      exact hk
    · obtain ⟨x17, e17, h⟩ := bd h
      rcases ite_e h with ⟨_, h⟩ | ⟨_, h⟩
      · have h := Option.some.inj h
        subst h
        exact hk
      · obtain ⟨x27, e27, h⟩ := bd h
        rcases ite_e h with ⟨_, h⟩ | ⟨_, h⟩
        · have h := Option.some.inj h
          subst h
          exact hk
        · obtain ⟨μ38, e38, h⟩ := bd h
          have hk := (kq_pfI e38).trans hk
          obtain ⟨μ43, e43, h⟩ := bd h
          have hk := (kq_pfI e43).trans hk
          obtain ⟨x48, e48, h⟩ := bd h
          obtain ⟨x52, e52, h⟩ := bd h
          obtain ⟨x55, e55, h⟩ := bd h
          obtain ⟨x60, e60, h⟩ := bd h
          have hk := (t_X11_live e60).trans hk
          rcases ite_e h with ⟨_, h⟩ | ⟨_, h⟩
          · obtain ⟨x69, e69, h⟩ := bd h
            have h := Option.some.inj h
            subst h
            exact hk
          · rcases ite_e h with ⟨_, h⟩ | ⟨_, h⟩
            · obtain ⟨x82, e82, h⟩ := bd h
              have h := Option.some.inj h
              subst h
              exact hk
            · obtain ⟨x89, e89, h⟩ := bd h
              have h := Option.some.inj h
              subst h
              exact hk
theorem t_X11_draw {a0 : Nat} {l1 : Int32} {μ : Mm} {x : (Int32 × Mm)} (h : f_X11_draw a0 l1 μ = some x) : tl ((fun (q : (Int32 × Mm)) => q.2) x) = tl μ := by
  have hk : tl μ = tl μ := rfl
  obtain ⟨_, h⟩ := ite_p h
  obtain ⟨x5, e5, h⟩ := bd h
  obtain ⟨μ17, e17, h⟩ := bd h
  have hk := (kq_pfL e17).trans hk
  obtain ⟨x21, e21, h⟩ := bd h
  obtain ⟨_, h⟩ := ite_n h
  have h := Option.some.inj h
  subst h
  exact hk
theorem t_X11_end {a0 : Nat} {l1 : Int32} {μ : Mm} {x : (Int32 × Mm)} (h : f_X11_end a0 l1 μ = some x) : tl ((fun (q : (Int32 × Mm)) => q.2) x) = tl μ := by
  have hk : tl μ = tl μ := rfl
  obtain ⟨_, h⟩ := ite_p h
  rcases ite_e h with ⟨_, h⟩ | ⟨_, h⟩
  · have h := Option.some.inj h
    subst h
    exact hk
  · obtain ⟨x6, e6, h⟩ := bd h
    rcases ite_e h with ⟨_, h⟩ | ⟨_, h⟩
    · obtain ⟨μ16, e16, h⟩ := bd h
      have hk := (kq_pfI e16).trans hk
      have h := Option.some.inj h
      subst h
      exact hk
    · have h := Option.some.inj h
      subst h
      exact hk
theorem t_X11_fails {a0 : Nat} {l1 : Int32} {μ : Mm} {x : (Int32 × Mm)} (h : f_X11_fails a0 l1 μ = some x) : tl ((fun (q : (Int32 × Mm)) => q.2) x) = tl μ := by
  have hk : tl μ = tl μ := rfl
  obtain ⟨_, h⟩ := ite_p h
  obtain ⟨μ2, e2, h⟩ := bd h
  have hk := (kq_pfI e2).trans hk
  obtain ⟨x7, e7, h⟩ := bd h
  obtain ⟨μ10, e10, h⟩ := bd h
  have hk := (kq_pfI e10).trans hk
  have h := Option.some.inj h
  subst h
  exact hk
theorem t_X11_feed_J115 {a0 : Nat} {μ : Mm} {x : (Int32 × Mm)} (h : f_X11_feed_J115 a0 μ = some x) : tl ((fun (q : (Int32 × Mm)) => q.2) x) = tl μ := by
  have hk : tl μ = tl μ := rfl
  obtain ⟨x116, e116, h⟩ := bd h
  have h := Option.some.inj h
  subst h
  exact hk
theorem t_X11_feed_J109 {a0 : Nat} {l1 : Int32} {l2 : Int32} {l3 : Int32} {l4 : Int32} {l5 : Int32} {l6 : Int32} {μ : Mm} {x : ((Int32 × Mm) ⊕ (Mm))} (h : f_X11_feed_J109 a0 l1 l2 l3 l4 l5 l6 μ = some x) : tl ((sm (fun (q : Int32 × Mm) => q.2) (fun (q : Mm) => q)) x) = tl μ := by
  have hk : tl μ = tl μ := rfl
  obtain ⟨v109, e109, h⟩ := bd h
  have h := Option.some.inj h
  subst h
  exact hk
theorem t_X11_feed_L73 {a0 : Nat} {l1 : Int32} {l2 : Int32} {l3 : Int32} {l4 : Int32} {l5 : Int32} {l6 : Int32} {l7 : Int32} {s73 : Int32 × Mm} {x : ((Int32 × Mm) ⊕ (Mm))} (h : f_X11_feed_L73 a0 l1 l2 l3 l4 l5 l6 l7 s73 = some x) : tl (sm (fun (q : Int32 × Mm) => q.2) (fun (q : Mm) => q) x) = tl ((fun (q : Int32 × Mm) => q.2) s73) := by
  have hk : tl (s73.2) = tl (s73.2) := rfl
  rcases ite_e h with ⟨_, h⟩ | ⟨_, h⟩
  · have h := Option.some.inj h
    subst h
    exact hk
  · obtain ⟨x79, e79, h⟩ := bd h
    obtain ⟨x83, e83, h⟩ := bd h
    obtain ⟨μ92, e92, h⟩ := bd h
    have hk := (kq_paB e92).trans hk
    obtain ⟨x95, e95, h⟩ := bd h
    obtain ⟨μ100, e100, h⟩ := bd h
    have hk := (kq_pfI e100).trans hk
    obtain ⟨v103, e103, h⟩ := bd h
    have h := Option.some.inj h
    subst h
    exact hk
theorem t_X11_feed_W73 {a0 : Nat} {l1 : Int32} {l2 : Int32} {l3 : Int32} {l4 : Int32} {l5 : Int32} {l6 : Int32} {l7 : Int32} {s73 : Int32 × Mm} {b : Mm} (h : whl (f_X11_feed_L73 a0 l1 l2 l3 l4 l5 l6 l7) s73 = some b) : tl ((fun (q : Mm) => q) b) = tl ((fun (q : Int32 × Mm) => q.2) s73) :=
  whl_tl (g := (fun (q : Int32 × Mm) => q.2)) (gb := (fun (q : Mm) => q)) (fun s x hx => t_X11_feed_L73 hx) h
theorem t_X11_feed_J67 {a0 : Nat} {l1 : Int32} {l2 : Int32} {l3 : Int32} {l4 : Int32} {l5 : Int32} {l6 : Int32} {k0 : Int32} {μ : Mm} {x : ((Int32 × Mm) ⊕ (Mm))} (h : f_X11_feed_J67 a0 l1 l2 l3 l4 l5 l6 k0 μ = some x) : tl ((sm (fun (q : Int32 × Mm) => q.2) (fun (q : Mm) => q)) x) = tl μ := by
  have hk : tl μ = tl μ := rfl
  obtain ⟨b73, w73, h⟩ := bd h
  have hk := (t_X11_feed_W73 w73).trans hk
  exact (t_X11_feed_J109 h).trans hk
theorem t_X11_feed_L19 {a0 : Nat} {l1 : Int32} {l2 : Int32} {l3 : Int32} {l4 : Int32} {l5 : Int32} {s19 : Int32 × Mm} {x : ((Int32 × Mm) ⊕ (Mm))} (h : f_X11_feed_L19 a0 l1 l2 l3 l4 l5 s19 = some x) : tl (sm (fun (q : Int32 × Mm) => q.2) (fun (q : Mm) => q) x) = tl ((fun (q : Int32 × Mm) => q.2) s19) := by
  have hk : tl (s19.2) = tl (s19.2) := rfl
  rcases ite_e h with ⟨_, h⟩ | ⟨_, h⟩
  · have h := Option.some.inj h
    subst h
    exact hk
  · rcases ite_e h with ⟨_, h⟩ | ⟨_, h⟩
    · exact (t_X11_feed_J67 h).trans hk
    · rcases ite_e h with ⟨_, h⟩ | ⟨_, h⟩
      · exact (t_X11_feed_J67 h).trans hk
      · rcases ite_e h with ⟨_, h⟩ | ⟨_, h⟩
        · exact (t_X11_feed_J67 h).trans hk
        · rcases ite_e h with ⟨_, h⟩ | ⟨_, h⟩
          · exact (t_X11_feed_J67 h).trans hk
          · exact (t_X11_feed_J67 h).trans hk
theorem t_X11_feed_W19 {a0 : Nat} {l1 : Int32} {l2 : Int32} {l3 : Int32} {l4 : Int32} {l5 : Int32} {s19 : Int32 × Mm} {b : Mm} (h : whl (f_X11_feed_L19 a0 l1 l2 l3 l4 l5) s19 = some b) : tl ((fun (q : Mm) => q) b) = tl ((fun (q : Int32 × Mm) => q.2) s19) :=
  whl_tl (g := (fun (q : Int32 × Mm) => q.2)) (gb := (fun (q : Mm) => q)) (fun s x hx => t_X11_feed_L19 hx) h
theorem t_X11_feed {a0 : Nat} {l1 : Int32} {l2 : Int32} {l3 : Int32} {l4 : Int32} {l5 : Int32} {μ : Mm} {x : (Int32 × Mm)} (h : f_X11_feed a0 l1 l2 l3 l4 l5 μ = some x) : tl ((fun (q : (Int32 × Mm)) => q.2) x) = tl μ := by
  have hk : tl μ = tl μ := rfl
  obtain ⟨_, h⟩ := ite_p h
  obtain ⟨x1, e1, h⟩ := bd h
  rcases ite_e h with ⟨_, h⟩ | ⟨_, h⟩
  · obtain ⟨b19, w19, h⟩ := bd h
    have hk := (t_X11_feed_W19 w19).trans hk
    exact (t_X11_feed_J115 h).trans hk
  · have h := Option.some.inj h
    subst h
    exact hk
theorem t_X11_fit {a0 : Nat} {l1 : Int32} {l2 : Int32} {μ : Mm} {x : (Int32 × Mm)} (h : f_X11_fit a0 l1 l2 μ = some x) : tl ((fun (q : (Int32 × Mm)) => q.2) x) = tl μ := by
  have hk : tl μ = tl μ := rfl
  obtain ⟨_, h⟩ := ite_p h
  obtain ⟨x1, e1, h⟩ := bd h
  rcases ite_e h with ⟨_, h⟩ | ⟨_, h⟩
  · have h := Option.some.inj h
    subst h
    exact hk
  · obtain ⟨x10, e10, h⟩ := bd h
    rcases ite_e h with ⟨_, h⟩ | ⟨_, h⟩
    · have h := Option.some.inj h
      subst h
      exact hk
    · obtain ⟨x21, e21, h⟩ := bd h
      have hk := (t_X11_findFits e21).trans hk
      rcases ite_e h with ⟨_, h⟩ | ⟨_, h⟩
      · have h := Option.some.inj h
        subst h
        exact hk
      · obtain ⟨b37, w37, h⟩ := bd h
        have h := Option.some.inj h
        subst h
        exact hk
theorem t_X11_runDay {a0 : Nat} {μ : Mm} {x : Mm} (h : f_X11_runDay a0 μ = some x) : tl ((fun (q : Mm) => q) x) = tl μ := by
  have hk : tl μ = tl μ := rfl
  obtain ⟨_, h⟩ := ite_p h
  obtain ⟨x1, e1, h⟩ := bd h
  obtain ⟨x5, e5, h⟩ := bd h
  obtain ⟨x9, e9, h⟩ := bd h
  obtain ⟨_, h⟩ := ite_n h
  obtain ⟨v11, e11, h⟩ := bd h
  obtain ⟨x14, e14, h⟩ := bd h
  obtain ⟨x18, e18, h⟩ := bd h
  obtain ⟨x21, e21, h⟩ := bd h
  obtain ⟨x25, e25, h⟩ := bd h
  have hk := (t_X11_byDay e25).trans hk
  obtain ⟨x30, e30, h⟩ := bd h
  obtain ⟨x34, e34, h⟩ := bd h
  obtain ⟨x37, e37, h⟩ := bd h
  obtain ⟨x41, e41, h⟩ := bd h
  have hk := (t_X11_byNight e41).trans hk
  obtain ⟨x46, e46, h⟩ := bd h
  obtain ⟨μ51, e51, h⟩ := bd h
  have hk := (kq_pfI e51).trans hk
  obtain ⟨x58, e58, h⟩ := bd h
  obtain ⟨x62, e62, h⟩ := bd h
  rcases ite_e h with ⟨_, h⟩ | ⟨_, h⟩
  · obtain ⟨x69, e69, h⟩ := bd h
    obtain ⟨x72, e72, h⟩ := bd h
    have hk := (t_X11_draw e72).trans hk
    obtain ⟨μ75, e75, h⟩ := bd h
    have hk := (kq_pfI e75).trans hk
    have h := Option.some.inj h
    subst h
    exact hk
  · have h := Option.some.inj h
    subst h
    exact hk
theorem t_X11_go_J93 {a0 : Nat} {μ : Mm} {x : (Int32 × Mm)} (h : f_X11_go_J93 a0 μ = some x) : tl ((fun (q : (Int32 × Mm)) => q.2) x) = tl μ := by
  have hk : tl μ = tl μ := rfl
  obtain ⟨x94, e94, h⟩ := bd h
  have h := Option.some.inj h
  subst h
  exact hk
theorem t_X11_go_L69 {a0 : Nat} {s69 : Int32 × Mm} {x : ((Int32 × Mm) ⊕ (Mm))} (h : f_X11_go_L69 a0 s69 = some x) : tl (sm (fun (q : Int32 × Mm) => q.2) (fun (q : Mm) => q) x) = tl ((fun (q : Int32 × Mm) => q.2) s69) := by
  have hk : tl (s69.2) = tl (s69.2) := rfl
  rcases ite_e h with ⟨_, h⟩ | ⟨_, h⟩
  · have h := Option.some.inj h
    subst h
    exact hk
  · obtain ⟨x76, e76, h⟩ := bd h
    obtain ⟨x81, e81, h⟩ := bd h
    obtain ⟨x85, e85, h⟩ := bd h
    obtain ⟨μ86, e86, h⟩ := bd h
    have hk := (kq_paI e86).trans hk
    obtain ⟨v87, e87, h⟩ := bd h
    have h := Option.some.inj h
    subst h
    exact hk
theorem t_X11_go_W69 {a0 : Nat} {s69 : Int32 × Mm} {b : Mm} (h : whl (f_X11_go_L69 a0) s69 = some b) : tl ((fun (q : Mm) => q) b) = tl ((fun (q : Int32 × Mm) => q.2) s69) :=
  whl_tl (g := (fun (q : Int32 × Mm) => q.2)) (gb := (fun (q : Mm) => q)) (fun s x hx => t_X11_go_L69 hx) h
theorem t_X11_go_J67 {a0 : Nat} {μ : Mm} {x : (Int32 × Mm)} (h : f_X11_go_J67 a0 μ = some x) : tl ((fun (q : (Int32 × Mm)) => q.2) x) = tl μ := by
  have hk : tl μ = tl μ := rfl
  obtain ⟨b69, w69, h⟩ := bd h
  have hk := (t_X11_go_W69 w69).trans hk
  exact (t_X11_go_J93 h).trans hk
theorem t_X11_go_L52 {a0 : Nat} {l1 : Int32} {s52 : Int32 × Mm} {x : ((Int32 × Mm) ⊕ (Mm))} (h : f_X11_go_L52 a0 l1 s52 = some x) : tl (sm (fun (q : Int32 × Mm) => q.2) (fun (q : Mm) => q) x) = tl ((fun (q : Int32 × Mm) => q.2) s52) := by
  have hk : tl (s52.2) = tl (s52.2) := rfl
  rcases ite_e h with ⟨_, h⟩ | ⟨_, h⟩
  · have h := Option.some.inj h
    subst h
    exact hk
  · obtain ⟨x58, e58, h⟩ := bd h
    have hk := (t_X11_runDay e58).trans hk
    obtain ⟨v61, e61, h⟩ := bd h
    have h := Option.some.inj h
    subst h
    exact hk
theorem t_X11_go_W52 {a0 : Nat} {l1 : Int32} {s52 : Int32 × Mm} {b : Mm} (h : whl (f_X11_go_L52 a0 l1) s52 = some b) : tl ((fun (q : Mm) => q) b) = tl ((fun (q : Int32 × Mm) => q.2) s52) :=
  whl_tl (g := (fun (q : Int32 × Mm) => q.2)) (gb := (fun (q : Mm) => q)) (fun s x hx => t_X11_go_L52 hx) h
theorem t_X11_go_J50 {a0 : Nat} {l1 : Int32} {μ : Mm} {x : (Int32 × Mm)} (h : f_X11_go_J50 a0 l1 μ = some x) : tl ((fun (q : (Int32 × Mm)) => q.2) x) = tl μ := by
  have hk : tl μ = tl μ := rfl
  obtain ⟨b52, w52, h⟩ := bd h
  have hk := (t_X11_go_W52 w52).trans hk
  exact (t_X11_go_J67 h).trans hk
theorem t_X11_go_L26 {a0 : Nat} {l1 : Int32} {s26 : Int32 × Mm} {x : ((Int32 × Mm) ⊕ (Mm))} (h : f_X11_go_L26 a0 l1 s26 = some x) : tl (sm (fun (q : Int32 × Mm) => q.2) (fun (q : Mm) => q) x) = tl ((fun (q : Int32 × Mm) => q.2) s26) := by
  have hk : tl (s26.2) = tl (s26.2) := rfl
  rcases ite_e h with ⟨_, h⟩ | ⟨_, h⟩
  · have h := Option.some.inj h
    subst h
    exact hk
  · obtain ⟨x33, e33, h⟩ := bd h
    obtain ⟨x38, e38, h⟩ := bd h
    obtain ⟨x42, e42, h⟩ := bd h
    obtain ⟨μ43, e43, h⟩ := bd h
    have hk := (kq_paI e43).trans hk
    obtain ⟨v44, e44, h⟩ := bd h
    have h := Option.some.inj h
    subst h
    exact hk
theorem t_X11_go_W26 {a0 : Nat} {l1 : Int32} {s26 : Int32 × Mm} {b : Mm} (h : whl (f_X11_go_L26 a0 l1) s26 = some b) : tl ((fun (q : Mm) => q) b) = tl ((fun (q : Int32 × Mm) => q.2) s26) :=
  whl_tl (g := (fun (q : Int32 × Mm) => q.2)) (gb := (fun (q : Mm) => q)) (fun s x hx => t_X11_go_L26 hx) h
theorem t_X11_go {a0 : Nat} {l1 : Int32} {μ : Mm} {x : (Int32 × Mm)} (h : f_X11_go a0 l1 μ = some x) : tl ((fun (q : (Int32 × Mm)) => q.2) x) = tl μ := by
  have hk : tl μ = tl μ := rfl
  obtain ⟨_, h⟩ := ite_p h
  obtain ⟨x5, e5, h⟩ := bd h
  rcases ite_e h with ⟨_, h⟩ | ⟨_, h⟩
  · have h := Option.some.inj h
    subst h
    exact hk
  · obtain ⟨x15, e15, h⟩ := bd h
    rcases ite_e h with ⟨_, h⟩ | ⟨_, h⟩
    · have h := Option.some.inj h
      subst h
      exact hk
    · obtain ⟨b26, w26, h⟩ := bd h
      have hk := (t_X11_go_W26 w26).trans hk
      exact (t_X11_go_J50 h).trans hk
theorem t_X11_makeTurnings_J151 {self : Nat → Int32 → Int32 → Int64 → Mm → Option Mm} (hs : ∀ (y0 : Nat) (y1 : Int32) (y2 : Int32) (y3 : Int64) (μ : Mm) (x : Mm), self y0 y1 y2 y3 μ = some x → tl ((fun (q : Mm) => q) x) = tl μ) {a0 : Nat} {l1 : Int32} {l2 : Int32} {l3 : Int64} {l5 : Int32} {μ : Mm} {x : ((Int32 × Mm) ⊕ (Mm))} (h : f_X11_makeTurnings_J151 self a0 l1 l2 l3 l5 μ = some x) : tl ((sm (fun (q : Int32 × Mm) => q.2) (fun (q : Mm) => q)) x) = tl μ := by
  have hk : tl μ = tl μ := rfl
  obtain ⟨v151, e151, h⟩ := bd h
  have h := Option.some.inj h
  subst h
  exact hk
theorem t_X11_makeTurnings_J122 {self : Nat → Int32 → Int32 → Int64 → Mm → Option Mm} (hs : ∀ (y0 : Nat) (y1 : Int32) (y2 : Int32) (y3 : Int64) (μ : Mm) (x : Mm), self y0 y1 y2 y3 μ = some x → tl ((fun (q : Mm) => q) x) = tl μ) {a0 : Nat} {l1 : Int32} {l2 : Int32} {l3 : Int64} {l5 : Int32} {k0 : Int32} {μ : Mm} {x : ((Int32 × Mm) ⊕ (Mm))} (h : f_X11_makeTurnings_J122 self a0 l1 l2 l3 l5 k0 μ = some x) : tl ((sm (fun (q : Int32 × Mm) => q.2) (fun (q : Mm) => q)) x) = tl μ := by
  have hk : tl μ = tl μ := rfl
  rcases ite_e h with ⟨_, h⟩ | ⟨_, h⟩
  · exact (t_X11_makeTurnings_J151 hs h).trans hk
  · obtain ⟨x148, e148, h⟩ := bd h
    have hk := (hs a0 (l1 + (1 : Int32)) (l2 ||| ((1 : Int32) <<< (l5 &&& 31))) (l3 ||| (l5.toInt64 <<< (((4 : Int32) * l1).toInt64 &&& 63))) μ _ e148).trans hk
    exact (t_X11_makeTurnings_J151 hs h).trans hk
theorem t_X11_makeTurnings_J121 {self : Nat → Int32 → Int32 → Int64 → Mm → Option Mm} (hs : ∀ (y0 : Nat) (y1 : Int32) (y2 : Int32) (y3 : Int64) (μ : Mm) (x : Mm), self y0 y1 y2 y3 μ = some x → tl ((fun (q : Mm) => q) x) = tl μ) {a0 : Nat} {l1 : Int32} {l2 : Int32} {l3 : Int64} {l5 : Int32} {μ : Mm} {x : ((Int32 × Mm) ⊕ (Mm))} (h : f_X11_makeTurnings_J121 self a0 l1 l2 l3 l5 μ = some x) : tl ((sm (fun (q : Int32 × Mm) => q.2) (fun (q : Mm) => q)) x) = tl μ := by
  have hk : tl μ = tl μ := rfl
  exact (t_X11_makeTurnings_J122 hs h).trans hk
theorem t_X11_makeTurnings_J117 {self : Nat → Int32 → Int32 → Int64 → Mm → Option Mm} (hs : ∀ (y0 : Nat) (y1 : Int32) (y2 : Int32) (y3 : Int64) (μ : Mm) (x : Mm), self y0 y1 y2 y3 μ = some x → tl ((fun (q : Mm) => q) x) = tl μ) {a0 : Nat} {l1 : Int32} {l2 : Int32} {l3 : Int64} {l5 : Int32} {μ : Mm} {x : ((Int32 × Mm) ⊕ (Mm))} (h : f_X11_makeTurnings_J117 self a0 l1 l2 l3 l5 μ = some x) : tl ((sm (fun (q : Int32 × Mm) => q.2) (fun (q : Mm) => q)) x) = tl μ := by
  have hk : tl μ = tl μ := rfl
  exact (t_X11_makeTurnings_J122 hs h).trans hk
theorem t_X11_makeTurnings_L60 {self : Nat → Int32 → Int32 → Int64 → Mm → Option Mm} (hs : ∀ (y0 : Nat) (y1 : Int32) (y2 : Int32) (y3 : Int64) (μ : Mm) (x : Mm), self y0 y1 y2 y3 μ = some x → tl ((fun (q : Mm) => q) x) = tl μ) {a0 : Nat} {l1 : Int32} {l2 : Int32} {l3 : Int64} {s60 : Int32 × Mm} {x : ((Int32 × Mm) ⊕ (Mm))} (h : f_X11_makeTurnings_L60 self a0 l1 l2 l3 s60 = some x) : tl (sm (fun (q : Int32 × Mm) => q.2) (fun (q : Mm) => q) x) = tl ((fun (q : Int32 × Mm) => q.2) s60) := by
  have hk : tl (s60.2) = tl (s60.2) := rfl
  obtain ⟨x63, e63, h⟩ := bd h
  obtain ⟨x67, e67, h⟩ := bd h
  rcases ite_e h with ⟨_, h⟩ | ⟨_, h⟩
  · have h := Option.some.inj h
    subst h
    exact hk
  · rcases ite_e h with ⟨_, h⟩ | ⟨_, h⟩
    · exact (t_X11_makeTurnings_J121 hs h).trans hk
    · obtain ⟨x80, e80, h⟩ := bd h
      rcases ite_e h with ⟨_, h⟩ | ⟨_, h⟩
      · rcases ite_e h with ⟨_, h⟩ | ⟨_, h⟩
        · obtain ⟨x96, e96, h⟩ := bd h
          obtain ⟨x100, e100, h⟩ := bd h
          rcases ite_e h with ⟨_, h⟩ | ⟨_, h⟩
          · exact (t_X11_makeTurnings_J117 hs h).trans hk
          · obtain ⟨x105, e105, h⟩ := bd h
            obtain ⟨x109, e109, h⟩ := bd h
            rcases ite_e h with ⟨_, h⟩ | ⟨_, h⟩
            · exact (t_X11_makeTurnings_J117 hs h).trans hk
            · exact (t_X11_makeTurnings_J121 hs h).trans hk
        · exact (t_X11_makeTurnings_J121 hs h).trans hk
      · exact (t_X11_makeTurnings_J121 hs h).trans hk
theorem t_X11_makeTurnings_W60 {self : Nat → Int32 → Int32 → Int64 → Mm → Option Mm} (hs : ∀ (y0 : Nat) (y1 : Int32) (y2 : Int32) (y3 : Int64) (μ : Mm) (x : Mm), self y0 y1 y2 y3 μ = some x → tl ((fun (q : Mm) => q) x) = tl μ) {a0 : Nat} {l1 : Int32} {l2 : Int32} {l3 : Int64} {s60 : Int32 × Mm} {b : Mm} (h : whl (f_X11_makeTurnings_L60 self a0 l1 l2 l3) s60 = some b) : tl ((fun (q : Mm) => q) b) = tl ((fun (q : Int32 × Mm) => q.2) s60) :=
  whl_tl (g := (fun (q : Int32 × Mm) => q.2)) (gb := (fun (q : Mm) => q)) (fun s x hx => t_X11_makeTurnings_L60 hs hx) h
theorem t_X11_makeTurnings_B {self : Nat → Int32 → Int32 → Int64 → Mm → Option Mm} (hs : ∀ (y0 : Nat) (y1 : Int32) (y2 : Int32) (y3 : Int64) (μ : Mm) (x : Mm), self y0 y1 y2 y3 μ = some x → tl ((fun (q : Mm) => q) x) = tl μ) {a0 : Nat} {l1 : Int32} {l2 : Int32} {l3 : Int64} {μ : Mm} {x : Mm} (h : f_X11_makeTurnings_B self a0 l1 l2 l3 μ = some x) : tl ((fun (q : Mm) => q) x) = tl μ := by
  have hk : tl μ = tl μ := rfl
  obtain ⟨_, h⟩ := ite_p h
  obtain ⟨x2, e2, h⟩ := bd h
  obtain ⟨x6, e6, h⟩ := bd h
  rcases ite_e h with ⟨_, h⟩ | ⟨_, h⟩
  · obtain ⟨x11, e11, h⟩ := bd h
    obtain ⟨x15, e15, h⟩ := bd h
    obtain ⟨μ19, e19, h⟩ := bd h
    have hk := (kq_paL e19).trans hk
    obtain ⟨x22, e22, h⟩ := bd h
    obtain ⟨μ27, e27, h⟩ := bd h
    have hk := (kq_pfI e27).trans hk
    have h := Option.some.inj h
    subst h
    exact hk
  · obtain ⟨x33, e33, h⟩ := bd h
    rcases ite_e h with ⟨_, h⟩ | ⟨_, h⟩
    · obtain ⟨b60, w60, h⟩ := bd h
      have hk := (t_X11_makeTurnings_W60 hs w60).trans hk
      have h := Option.some.inj h
      subst h
      exact hk
    · obtain ⟨x53, e53, h⟩ := bd h
      have hk := (hs a0 (l1 + (1 : Int32)) l2 (l3 ||| ((15 : Int64) <<< (((4 : Int32) * l1).toInt64 &&& 63))) μ _ e53).trans hk
      have h := Option.some.inj h
      subst h
      exact hk
theorem t_X11_makeTurnings {n : Nat} : ∀ {a0 : Nat} {l1 : Int32} {l2 : Int32} {l3 : Int64} {μ : Mm} {x : Mm}, f_X11_makeTurnings n a0 l1 l2 l3 μ = some x → tl ((fun (q : Mm) => q) x) = tl μ := by
  induction n with
  | zero => intro a0 l1 l2 l3 μ x h; cases h
  | succ n ih => intro a0 l1 l2 l3 μ x h; exact t_X11_makeTurnings_B (fun _ _ _ _ μ x h => ih h) h
theorem t_X11_settle_L192 {a0 : Nat} {s192 : Int32 × Mm} {x : ((Int32 × Mm) ⊕ (Mm))} (h : f_X11_settle_L192 a0 s192 = some x) : tl (sm (fun (q : Int32 × Mm) => q.2) (fun (q : Mm) => q) x) = tl ((fun (q : Int32 × Mm) => q.2) s192) := by
  have hk : tl (s192.2) = tl (s192.2) := rfl
  rcases ite_e h with ⟨_, h⟩ | ⟨_, h⟩
  · have h := Option.some.inj h
    subst h
    exact hk
  · obtain ⟨x198, e198, h⟩ := bd h
    obtain ⟨μ203, e203, h⟩ := bd h
    have hk := (kq_paZ e203).trans hk
    obtain ⟨v204, e204, h⟩ := bd h
    have h := Option.some.inj h
    subst h
    exact hk
theorem t_X11_settle_W192 {a0 : Nat} {s192 : Int32 × Mm} {b : Mm} (h : whl (f_X11_settle_L192 a0) s192 = some b) : tl ((fun (q : Mm) => q) b) = tl ((fun (q : Int32 × Mm) => q.2) s192) :=
  whl_tl (g := (fun (q : Int32 × Mm) => q.2)) (gb := (fun (q : Mm) => q)) (fun s x hx => t_X11_settle_L192 hx) h
theorem t_X11_settle {a0 : Nat} {μ : Mm} {x : Mm} (h : f_X11_settle a0 μ = some x) : tl ((fun (q : Mm) => q) x) = tl μ := by
  have hk : tl μ = tl μ := rfl
  obtain ⟨_, h⟩ := ite_p h
  obtain ⟨x1, e1, h⟩ := bd h
  obtain ⟨x6, e6, h⟩ := bd h
  have hk := (t_X11_comes e6).trans hk
  obtain ⟨x10, e10, h⟩ := bd h
  obtain ⟨x15, e15, h⟩ := bd h
  have hk := (t_X11_comes e15).trans hk
  obtain ⟨x19, e19, h⟩ := bd h
  obtain ⟨x24, e24, h⟩ := bd h
  have hk := (t_X11_comes e24).trans hk
  obtain ⟨x28, e28, h⟩ := bd h
  obtain ⟨x33, e33, h⟩ := bd h
  have hk := (t_X11_comes e33).trans hk
  obtain ⟨x37, e37, h⟩ := bd h
  obtain ⟨x42, e42, h⟩ := bd h
  have hk := (t_X11_comes e42).trans hk
  obtain ⟨x46, e46, h⟩ := bd h
  obtain ⟨x51, e51, h⟩ := bd h
  have hk := (t_X11_comes e51).trans hk
  obtain ⟨x55, e55, h⟩ := bd h
  obtain ⟨x60, e60, h⟩ := bd h
  have hk := (t_X11_comes e60).trans hk
  obtain ⟨x64, e64, h⟩ := bd h
  obtain ⟨x69, e69, h⟩ := bd h
  have hk := (t_X11_comes e69).trans hk
  obtain ⟨x73, e73, h⟩ := bd h
  obtain ⟨x78, e78, h⟩ := bd h
  have hk := (t_X11_comes e78).trans hk
  obtain ⟨x82, e82, h⟩ := bd h
  obtain ⟨x87, e87, h⟩ := bd h
  have hk := (t_X11_comes e87).trans hk
  obtain ⟨x91, e91, h⟩ := bd h
  obtain ⟨x96, e96, h⟩ := bd h
  have hk := (t_X11_comes e96).trans hk
  obtain ⟨x100, e100, h⟩ := bd h
  obtain ⟨x105, e105, h⟩ := bd h
  have hk := (t_X11_comes e105).trans hk
  obtain ⟨x109, e109, h⟩ := bd h
  obtain ⟨x114, e114, h⟩ := bd h
  have hk := (t_X11_comes e114).trans hk
  obtain ⟨x118, e118, h⟩ := bd h
  obtain ⟨x123, e123, h⟩ := bd h
  have hk := (t_X11_comes e123).trans hk
  obtain ⟨x127, e127, h⟩ := bd h
  obtain ⟨x132, e132, h⟩ := bd h
  have hk := (t_X11_comes e132).trans hk
  obtain ⟨x136, e136, h⟩ := bd h
  obtain ⟨x141, e141, h⟩ := bd h
  have hk := (t_X11_comes e141).trans hk
  obtain ⟨x145, e145, h⟩ := bd h
  obtain ⟨x150, e150, h⟩ := bd h
  have hk := (t_X11_comes e150).trans hk
  obtain ⟨μ155, e155, h⟩ := bd h
  have hk := (kq_pfI e155).trans hk
  obtain ⟨x162, e162, h⟩ := bd h
  have hk := (t_X11_makeTurnings e162).trans hk
  obtain ⟨μ167, e167, h⟩ := bd h
  have hk := (kq_pfI e167).trans hk
  obtain ⟨μ172, e172, h⟩ := bd h
  have hk := (kq_pfI e172).trans hk
  obtain ⟨μ177, e177, h⟩ := bd h
  have hk := (kq_pfI e177).trans hk
  obtain ⟨μ182, e182, h⟩ := bd h
  have hk := (kq_pfI e182).trans hk
  obtain ⟨μ187, e187, h⟩ := bd h
  have hk := (kq_pfZ e187).trans hk
  obtain ⟨b192, w192, h⟩ := bd h
  have hk := (t_X11_settle_W192 w192).trans hk
  have h := Option.some.inj h
  subst h
  exact hk
theorem t_X11_scan_J270 {a0 : Nat} {l3 : Int32} {μ : Mm} {x : Mm} (h : f_X11_scan_J270 a0 l3 μ = some x) : tl ((fun (q : Mm) => q) x) = tl μ := by
  have hk : tl μ = tl μ := rfl
  obtain ⟨μ272, e272, h⟩ := bd h
  have hk := (kq_pfI e272).trans hk
  have h := Option.some.inj h
  subst h
  exact hk
theorem t_X11_scan_J267 {a0 : Nat} {l3 : Int32} {k0 : Nat} {k1 : Int32} {μ : Mm} {x : Mm} (h : f_X11_scan_J267 a0 l3 k0 k1 μ = some x) : tl ((fun (q : Mm) => q) x) = tl μ := by
  have hk : tl μ = tl μ := rfl
  obtain ⟨μ267, e267, h⟩ := bd h
  have hk := (kq_pfI e267).trans hk
  exact (t_X11_scan_J270 h).trans hk
theorem t_X11_scan_J249 {a0 : Nat} {l3 : Int32} {k0 : Nat} {k1 : Int32} {μ : Mm} {x : Mm} (h : f_X11_scan_J249 a0 l3 k0 k1 μ = some x) : tl ((fun (q : Mm) => q) x) = tl μ := by
  have hk : tl μ = tl μ := rfl
  obtain ⟨μ249, e249, h⟩ := bd h
  have hk := (kq_pfI e249).trans hk
  exact (t_X11_scan_J270 h).trans hk
theorem t_X11_scan_J236 {a0 : Nat} {l1 : Int32} {l3 : Int32} {μ : Mm} {x : Mm} (h : f_X11_scan_J236 a0 l1 l3 μ = some x) : tl ((fun (q : Mm) => q) x) = tl μ := by
  have hk : tl μ = tl μ := rfl
  rcases ite_e h with ⟨_, h⟩ | ⟨_, h⟩
  · exact (t_X11_scan_J249 h).trans hk
  · exact (t_X11_scan_J249 h).trans hk
theorem t_X11_scan_J227 {a0 : Nat} {l1 : Int32} {l3 : Int32} {k0 : Nat} {k1 : Int32} {μ : Mm} {x : ((Int32 × Mm) ⊕ (Int32 × Mm))} (h : f_X11_scan_J227 a0 l1 l3 k0 k1 μ = some x) : tl ((sm (fun (q : Int32 × Mm) => q.2) (fun (q : Int32 × Mm) => q.2)) x) = tl μ := by
  have hk : tl μ = tl μ := rfl
  obtain ⟨μ227, e227, h⟩ := bd h
  have hk := (kq_pfI e227).trans hk
  obtain ⟨v230, e230, h⟩ := bd h
  have h := Option.some.inj h
  subst h
  exact hk
theorem t_X11_scan_L185 {a0 : Nat} {l1 : Int32} {s185 : Int32 × Mm} {x : ((Int32 × Mm) ⊕ (Int32 × Mm))} (h : f_X11_scan_L185 a0 l1 s185 = some x) : tl (sm (fun (q : Int32 × Mm) => q.2) (fun (q : Int32 × Mm) => q.2) x) = tl ((fun (q : Int32 × Mm) => q.2) s185) := by
  have hk : tl (s185.2) = tl (s185.2) := rfl
  obtain ⟨x187, e187, h⟩ := bd h
  obtain ⟨x190, e190, h⟩ := bd h
  rcases ite_e h with ⟨_, h⟩ | ⟨_, h⟩
  · have h := Option.some.inj h
    subst h
    exact hk
  · rcases ite_e h with ⟨_, h⟩ | ⟨_, h⟩
    · obtain ⟨x224, e224, h⟩ := bd h
      exact (t_X11_scan_J227 h).trans hk
    · obtain ⟨x207, e207, h⟩ := bd h
      obtain ⟨x213, e213, h⟩ := bd h
      exact (t_X11_scan_J227 h).trans hk
theorem t_X11_scan_W185 {a0 : Nat} {l1 : Int32} {s185 : Int32 × Mm} {b : Int32 × Mm} (h : whl (f_X11_scan_L185 a0 l1) s185 = some b) : tl ((fun (q : Int32 × Mm) => q.2) b) = tl ((fun (q : Int32 × Mm) => q.2) s185) :=
  whl_tl (g := (fun (q : Int32 × Mm) => q.2)) (gb := (fun (q : Int32 × Mm) => q.2)) (fun s x hx => t_X11_scan_L185 hx) h
theorem t_X11_scan_J144 {a0 : Nat} {l1 : Int32} {l3 : Int32} {k0 : Nat} {k1 : Int32} {μ : Mm} {x : Mm} (h : f_X11_scan_J144 a0 l1 l3 k0 k1 μ = some x) : tl ((fun (q : Mm) => q) x) = tl μ := by
  have hk : tl μ = tl μ := rfl
  obtain ⟨μ144, e144, h⟩ := bd h
  have hk := (kq_pfI e144).trans hk
  obtain ⟨x148, e148, h⟩ := bd h
  rcases ite_e h with ⟨_, h⟩ | ⟨_, h⟩
  · obtain ⟨x161, e161, h⟩ := bd h
    obtain ⟨μ164, e164, h⟩ := bd h
    have hk := (kq_pfI e164).trans hk
    exact (t_X11_scan_J270 h).trans hk
  · exact (t_X11_scan_J270 h).trans hk
theorem t_X11_scan_J130 {a0 : Nat} {l1 : Int32} {l3 : Int32} {μ : Mm} {x : Mm} (h : f_X11_scan_J130 a0 l1 l3 μ = some x) : tl ((fun (q : Mm) => q) x) = tl μ := by
  have hk : tl μ = tl μ := rfl
  rcases ite_e h with ⟨_, h⟩ | ⟨_, h⟩
  · exact (t_X11_scan_J144 h).trans hk
  · exact (t_X11_scan_J144 h).trans hk
theorem t_X11_scan_J124 {a0 : Nat} {l1 : Int32} {l3 : Int32} {μ : Mm} {x : ((Int32 × Mm) ⊕ (Int32 × Mm))} (h : f_X11_scan_J124 a0 l1 l3 μ = some x) : tl ((sm (fun (q : Int32 × Mm) => q.2) (fun (q : Int32 × Mm) => q.2)) x) = tl μ := by
  have hk : tl μ = tl μ := rfl
  obtain ⟨v124, e124, h⟩ := bd h
  have h := Option.some.inj h
  subst h
  exact hk
theorem t_X11_scan_L80 {a0 : Nat} {l1 : Int32} {s80 : Int32 × Mm} {x : ((Int32 × Mm) ⊕ (Int32 × Mm))} (h : f_X11_scan_L80 a0 l1 s80 = some x) : tl (sm (fun (q : Int32 × Mm) => q.2) (fun (q : Int32 × Mm) => q.2) x) = tl ((fun (q : Int32 × Mm) => q.2) s80) := by
  have hk : tl (s80.2) = tl (s80.2) := rfl
  obtain ⟨x82, e82, h⟩ := bd h
  obtain ⟨x85, e85, h⟩ := bd h
  rcases ite_e h with ⟨_, h⟩ | ⟨_, h⟩
  · have h := Option.some.inj h
    subst h
    exact hk
  · rcases ite_e h with ⟨_, h⟩ | ⟨_, h⟩
    · exact (t_X11_scan_J124 h).trans hk
    · obtain ⟨x104, e104, h⟩ := bd h
      obtain ⟨x110, e110, h⟩ := bd h
      obtain ⟨μ121, e121, h⟩ := bd h
      have hk := (kq_pfL e121).trans hk
      exact (t_X11_scan_J124 h).trans hk
theorem t_X11_scan_W80 {a0 : Nat} {l1 : Int32} {s80 : Int32 × Mm} {b : Int32 × Mm} (h : whl (f_X11_scan_L80 a0 l1) s80 = some b) : tl ((fun (q : Int32 × Mm) => q.2) b) = tl ((fun (q : Int32 × Mm) => q.2) s80) :=
  whl_tl (g := (fun (q : Int32 × Mm) => q.2)) (gb := (fun (q : Int32 × Mm) => q.2)) (fun s x hx => t_X11_scan_L80 hx) h
theorem t_X11_scan_J31 {a0 : Nat} {l1 : Int32} {μ : Mm} {x : Mm} (h : f_X11_scan_J31 a0 l1 μ = some x) : tl ((fun (q : Mm) => q) x) = tl μ := by
  have hk : tl μ = tl μ := rfl
  obtain ⟨μ33, e33, h⟩ := bd h
  have hk := (kq_pfI e33).trans hk
  obtain ⟨x38, e38, h⟩ := bd h
  obtain ⟨v45, e45, h⟩ := bd h
  obtain ⟨μ48, e48, h⟩ := bd h
  have hk := (kq_pfI e48).trans hk
  rcases ite_e h with ⟨_, h⟩ | ⟨_, h⟩
  · obtain ⟨μ58, e58, h⟩ := bd h
    have hk := (kq_pfI e58).trans hk
    exact (t_X11_scan_J270 h).trans hk
  · obtain ⟨x67, e67, h⟩ := bd h
    rcases ite_e h with ⟨_, h⟩ | ⟨_, h⟩
    · obtain ⟨x171, e171, h⟩ := bd h
      rcases ite_e h with ⟨_, h⟩ | ⟨_, h⟩
      · rcases ite_e h with ⟨_, h⟩ | ⟨_, h⟩
        · exact (t_X11_scan_J267 h).trans hk
        · exact (t_X11_scan_J267 h).trans hk
      · obtain ⟨μ182, e182, h⟩ := bd h
        have hk := (kq_pfI e182).trans hk
        obtain ⟨b185, w185, h⟩ := bd h
        have hk := (t_X11_scan_W185 w185).trans hk
        exact (t_X11_scan_J236 h).trans hk
    · obtain ⟨μ75, e75, h⟩ := bd h
      have hk := (kq_pfL e75).trans hk
      obtain ⟨b80, w80, h⟩ := bd h
      have hk := (t_X11_scan_W80 w80).trans hk
      exact (t_X11_scan_J130 h).trans hk
theorem t_X11_scan {a0 : Nat} {μ : Mm} {x : Mm} (h : f_X11_scan a0 μ = some x) : tl ((fun (q : Mm) => q) x) = tl μ := by
  have hk : tl μ = tl μ := rfl
  obtain ⟨_, h⟩ := ite_p h
  obtain ⟨x1, e1, h⟩ := bd h
  obtain ⟨b5, w5, h⟩ := bd h
  exact (t_X11_scan_J31 h).trans hk
theorem t_X11_takeTape {a0 : Nat} {μ : Mm} {x : Mm} (h : f_X11_takeTape a0 μ = some x) : tl ((fun (q : Mm) => q) x) = tl μ := by
  have hk : tl μ = tl μ := rfl
  obtain ⟨_, h⟩ := ite_p h
  obtain ⟨x2, e2, h⟩ := bd h
  obtain ⟨μ5, e5, h⟩ := bd h
  have hk := (kq_pfI e5).trans hk
  obtain ⟨μ10, e10, h⟩ := bd h
  have hk := (kq_pfI e10).trans hk
  obtain ⟨μ15, e15, h⟩ := bd h
  have hk := (kq_pfI e15).trans hk
  obtain ⟨x19, e19, h⟩ := bd h
  have hk := (t_X11_scan e19).trans hk
  have h := Option.some.inj h
  subst h
  exact hk
theorem t_X11_readBook_J114 {a0 : Nat} {l1 : Int32} {μ : Mm} {x : ((Int32 × Mm) ⊕ ((Mm) ⊕ ((Mm) ⊕ (Int32 × Mm))))} (h : f_X11_readBook_J114 a0 l1 μ = some x) : tl ((sm (fun (q : Int32 × Mm) => q.2) (sm (fun (q : Mm) => q) (sm (fun (q : Mm) => q) (fun (q : Int32 × Mm) => q.2)))) x) = tl μ := by
  have hk : tl μ = tl μ := rfl
  obtain ⟨x115, e115, h⟩ := bd h
  rcases ite_e h with ⟨_, h⟩ | ⟨_, h⟩
  · obtain ⟨x125, e125, h⟩ := bd h
    have hk := (t_X11_scan e125).trans hk
    obtain ⟨v128, e128, h⟩ := bd h
    have h := Option.some.inj h
    subst h
    exact hk
  · have h := Option.some.inj h
    subst h
    exact hk
theorem t_X11_readBook_J104 {a0 : Nat} {l1 : Int32} {l2 : Int32} {μ : Mm} {x : ((Int32 × Mm) ⊕ ((Mm) ⊕ (Mm)))} (h : f_X11_readBook_J104 a0 l1 l2 μ = some x) : tl ((sm (fun (q : Int32 × Mm) => q.2) (sm (fun (q : Mm) => q) (fun (q : Mm) => q))) x) = tl μ := by
  have hk : tl μ = tl μ := rfl
  obtain ⟨x105, e105, h⟩ := bd h
  have hk := (t_X11_scan e105).trans hk
  obtain ⟨v108, e108, h⟩ := bd h
  have h := Option.some.inj h
  subst h
  exact hk
theorem t_X11_readBook_J54 {a0 : Nat} {l1 : Int32} {l2 : Int32} {k0 : Int32} {k1 : Int32} {μ : Mm} {x : ((Int32 × Mm) ⊕ ((Mm) ⊕ (Mm)))} (h : f_X11_readBook_J54 a0 l1 l2 k0 k1 μ = some x) : tl ((sm (fun (q : Int32 × Mm) => q.2) (sm (fun (q : Mm) => q) (fun (q : Mm) => q))) x) = tl μ := by
  have hk : tl μ = tl μ := rfl
  rcases ite_e h with ⟨_, h⟩ | ⟨_, h⟩
  · rcases ite_e h with ⟨_, h⟩ | ⟨_, h⟩
    · obtain ⟨x64, e64, h⟩ := bd h
      obtain ⟨x69, e69, h⟩ := bd h
      obtain ⟨μ72, e72, h⟩ := bd h
      have hk := (kq_paI e72).trans hk
      exact (t_X11_readBook_J104 h).trans hk
    · rcases ite_e h with ⟨_, h⟩ | ⟨_, h⟩
      · obtain ⟨x82, e82, h⟩ := bd h
        obtain ⟨x87, e87, h⟩ := bd h
        obtain ⟨μ90, e90, h⟩ := bd h
        have hk := (kq_paI e90).trans hk
        exact (t_X11_readBook_J104 h).trans hk
      · obtain ⟨x95, e95, h⟩ := bd h
        obtain ⟨x100, e100, h⟩ := bd h
        obtain ⟨μ103, e103, h⟩ := bd h
        have hk := (kq_paI e103).trans hk
        exact (t_X11_readBook_J104 h).trans hk
  · have h := Option.some.inj h
    subst h
    exact hk
theorem t_X11_readBook_L16 {a0 : Nat} {l1 : Int32} {s16 : Int32 × Mm} {x : ((Int32 × Mm) ⊕ ((Mm) ⊕ (Mm)))} (h : f_X11_readBook_L16 a0 l1 s16 = some x) : tl (sm (fun (q : Int32 × Mm) => q.2) (sm (fun (q : Mm) => q) (fun (q : Mm) => q)) x) = tl ((fun (q : Int32 × Mm) => q.2) s16) := by
  have hk : tl (s16.2) = tl (s16.2) := rfl
  rcases ite_e h with ⟨_, h⟩ | ⟨_, h⟩
  · have h := Option.some.inj h
    subst h
    exact hk
  · obtain ⟨x22, e22, h⟩ := bd h
    rcases ite_e h with ⟨_, h⟩ | ⟨_, h⟩
    · obtain ⟨x30, e30, h⟩ := bd h
      rcases ite_e h with ⟨_, h⟩ | ⟨_, h⟩
      · exact (t_X11_readBook_J54 h).trans hk
      · rcases ite_e h with ⟨_, h⟩ | ⟨_, h⟩
        · exact (t_X11_readBook_J54 h).trans hk
        · exact (t_X11_readBook_J54 h).trans hk
    · have h := Option.some.inj h
      subst h
      exact hk
theorem t_X11_readBook_W16 {a0 : Nat} {l1 : Int32} {s16 : Int32 × Mm} {b : (Mm) ⊕ (Mm)} (h : whl (f_X11_readBook_L16 a0 l1) s16 = some b) : tl ((sm (fun (q : Mm) => q) (fun (q : Mm) => q)) b) = tl ((fun (q : Int32 × Mm) => q.2) s16) :=
  whl_tl (g := (fun (q : Int32 × Mm) => q.2)) (gb := (sm (fun (q : Mm) => q) (fun (q : Mm) => q))) (fun s x hx => t_X11_readBook_L16 hx) h
theorem t_X11_readBook_L6 {a0 : Nat} {s6 : Int32 × Mm} {x : ((Int32 × Mm) ⊕ ((Mm) ⊕ ((Mm) ⊕ (Int32 × Mm))))} (h : f_X11_readBook_L6 a0 s6 = some x) : tl (sm (fun (q : Int32 × Mm) => q.2) (sm (fun (q : Mm) => q) (sm (fun (q : Mm) => q) (fun (q : Int32 × Mm) => q.2))) x) = tl ((fun (q : Int32 × Mm) => q.2) s6) := by
  have hk : tl (s6.2) = tl (s6.2) := rfl
  obtain ⟨x7, e7, h⟩ := bd h
  rcases ite_e h with ⟨_, h⟩ | ⟨_, h⟩
  · have h := Option.some.inj h
    subst h
    exact hk
  · obtain ⟨b16, w16, h⟩ := bd h
    have hk := (t_X11_readBook_W16 w16).trans hk
    rcases b16 with b16 | b16
    · have h := Option.some.inj h
      subst h
      exact hk
    · exact (t_X11_readBook_J114 h).trans hk
theorem t_X11_readBook_W6 {a0 : Nat} {s6 : Int32 × Mm} {b : (Mm) ⊕ ((Mm) ⊕ (Int32 × Mm))} (h : whl (f_X11_readBook_L6 a0) s6 = some b) : tl ((sm (fun (q : Mm) => q) (sm (fun (q : Mm) => q) (fun (q : Int32 × Mm) => q.2))) b) = tl ((fun (q : Int32 × Mm) => q.2) s6) :=
  whl_tl (g := (fun (q : Int32 × Mm) => q.2)) (gb := (sm (fun (q : Mm) => q) (sm (fun (q : Mm) => q) (fun (q : Int32 × Mm) => q.2)))) (fun s x hx => t_X11_readBook_L6 hx) h
theorem t_X11_readBook {a0 : Nat} {μ : Mm} {x : (Int32 × Mm)} (h : f_X11_readBook a0 μ = some x) : tl ((fun (q : (Int32 × Mm)) => q.2) x) = tl μ := by
  have hk : tl μ = tl μ := rfl
  obtain ⟨_, h⟩ := ite_p h
  obtain ⟨x1, e1, h⟩ := bd h
  have hk := (t_X11_takeTape e1).trans hk
  obtain ⟨b6, w6, h⟩ := bd h
  have hk := (t_X11_readBook_W6 w6).trans hk
  rcases b6 with b6 | b6
  · have h := Option.some.inj h
    subst h
    exact hk
  · rcases b6 with b6 | b6
    · have h := Option.some.inj h
      subst h
      exact hk
    · have h := Option.some.inj h
      subst h
      exact hk
theorem t_X11_judge_L15 {a0 : Nat} {l1 : Int32} {s15 : Int32 × Mm} {x : ((Int32 × Mm) ⊕ ((Int32 × Mm) ⊕ ((Int32 × Mm) ⊕ (Mm))))} (h : f_X11_judge_L15 a0 l1 s15 = some x) : tl (sm (fun (q : Int32 × Mm) => q.2) (sm (fun (q : Int32 × Mm) => q.2) (sm (fun (q : Int32 × Mm) => q.2) (fun (q : Mm) => q))) x) = tl ((fun (q : Int32 × Mm) => q.2) s15) := by
  have hk : tl (s15.2) = tl (s15.2) := rfl
  rcases ite_e h with ⟨_, h⟩ | ⟨_, h⟩
  · have h := Option.some.inj h
    subst h
    exact hk
  · obtain ⟨x22, e22, h⟩ := bd h
    obtain ⟨x26, e26, h⟩ := bd h
    obtain ⟨x27, e27, h⟩ := bd h
    rcases ite_e h with ⟨_, h⟩ | ⟨_, h⟩
    · have h := Option.some.inj h
      subst h
      exact hk
    · obtain ⟨x35, e35, h⟩ := bd h
      obtain ⟨x39, e39, h⟩ := bd h
      obtain ⟨x40, e40, h⟩ := bd h
      rcases ite_e h with ⟨_, h⟩ | ⟨_, h⟩
      · have h := Option.some.inj h
        subst h
        exact hk
      · obtain ⟨x52, e52, h⟩ := bd h
        obtain ⟨x56, e56, h⟩ := bd h
        obtain ⟨x59, e59, h⟩ := bd h
        obtain ⟨x61, e61, h⟩ := bd h
        obtain ⟨x65, e65, h⟩ := bd h
        obtain ⟨x69, e69, h⟩ := bd h
        have hk := (t_X11_live e69).trans hk
        obtain ⟨x73, e73, h⟩ := bd h
        obtain ⟨x77, e77, h⟩ := bd h
        obtain ⟨x81, e81, h⟩ := bd h
        obtain ⟨x82, e82, h⟩ := bd h
        obtain ⟨x84, e84, h⟩ := bd h
        obtain ⟨x88, e88, h⟩ := bd h
        rcases ite_e h with ⟨_, h⟩ | ⟨_, h⟩
        · have h := Option.some.inj h
          subst h
          exact hk
        · obtain ⟨v99, e99, h⟩ := bd h
          have h := Option.some.inj h
          subst h
          exact hk
theorem t_X11_judge_W15 {a0 : Nat} {l1 : Int32} {s15 : Int32 × Mm} {b : (Int32 × Mm) ⊕ ((Int32 × Mm) ⊕ (Mm))} (h : whl (f_X11_judge_L15 a0 l1) s15 = some b) : tl ((sm (fun (q : Int32 × Mm) => q.2) (sm (fun (q : Int32 × Mm) => q.2) (fun (q : Mm) => q))) b) = tl ((fun (q : Int32 × Mm) => q.2) s15) :=
  whl_tl (g := (fun (q : Int32 × Mm) => q.2)) (gb := (sm (fun (q : Int32 × Mm) => q.2) (sm (fun (q : Int32 × Mm) => q.2) (fun (q : Mm) => q)))) (fun s x hx => t_X11_judge_L15 hx) h
theorem t_X11_judge {a0 : Nat} {μ : Mm} {x : (Int32 × Mm)} (h : f_X11_judge a0 μ = some x) : tl ((fun (q : (Int32 × Mm)) => q.2) x) = tl μ := by
  have hk : tl μ = tl μ := rfl
  obtain ⟨_, h⟩ := ite_p h
  obtain ⟨x1, e1, h⟩ := bd h
  have hk := (t_X11_readBook e1).trans hk
  rcases ite_e h with ⟨_, h⟩ | ⟨_, h⟩
  · obtain ⟨b15, w15, h⟩ := bd h
    have hk := (t_X11_judge_W15 w15).trans hk
    rcases b15 with b15 | b15
    · have h := Option.some.inj h
      subst h
      exact hk
    · rcases b15 with b15 | b15
      · have h := Option.some.inj h
        subst h
        exact hk
      · have h := Option.some.inj h
        subst h
        exact hk
  · have h := Option.some.inj h
    subst h
    exact hk
theorem t_X11_keep_J90 {a0 : Nat} {μ : Mm} {x : (Int32 × Mm)} (h : f_X11_keep_J90 a0 μ = some x) : tl ((fun (q : (Int32 × Mm)) => q.2) x) = tl μ := by
  have hk : tl μ = tl μ := rfl
  obtain ⟨x91, e91, h⟩ := bd h
  have h := Option.some.inj h
  subst h
  exact hk
theorem t_X11_keep_L59 {a0 : Nat} {l1 : Int32} {s59 : Int32 × Mm} {x : ((Int32 × Mm) ⊕ (Mm))} (h : f_X11_keep_L59 a0 l1 s59 = some x) : tl (sm (fun (q : Int32 × Mm) => q.2) (fun (q : Mm) => q) x) = tl ((fun (q : Int32 × Mm) => q.2) s59) := by
  have hk : tl (s59.2) = tl (s59.2) := rfl
  rcases ite_e h with ⟨_, h⟩ | ⟨_, h⟩
  · have h := Option.some.inj h
    subst h
    exact hk
  · obtain ⟨x66, e66, h⟩ := bd h
    obtain ⟨x78, e78, h⟩ := bd h
    obtain ⟨x82, e82, h⟩ := bd h
    obtain ⟨μ83, e83, h⟩ := bd h
    have hk := (kq_paI e83).trans hk
    obtain ⟨v84, e84, h⟩ := bd h
    have h := Option.some.inj h
    subst h
    exact hk
theorem t_X11_keep_W59 {a0 : Nat} {l1 : Int32} {s59 : Int32 × Mm} {b : Mm} (h : whl (f_X11_keep_L59 a0 l1) s59 = some b) : tl ((fun (q : Mm) => q) b) = tl ((fun (q : Int32 × Mm) => q.2) s59) :=
  whl_tl (g := (fun (q : Int32 × Mm) => q.2)) (gb := (fun (q : Mm) => q)) (fun s x hx => t_X11_keep_L59 hx) h
theorem t_X11_keep {a0 : Nat} {l1 : Int32} {μ : Mm} {x : (Int32 × Mm)} (h : f_X11_keep a0 l1 μ = some x) : tl ((fun (q : (Int32 × Mm)) => q.2) x) = tl μ := by
  have hk : tl μ = tl μ := rfl
  obtain ⟨_, h⟩ := ite_p h
  obtain ⟨x1, e1, h⟩ := bd h
  rcases ite_e h with ⟨_, h⟩ | ⟨_, h⟩
  · have h := Option.some.inj h
    subst h
    exact hk
  · obtain ⟨x11, e11, h⟩ := bd h
    rcases ite_e h with ⟨_, h⟩ | ⟨_, h⟩
    · have h := Option.some.inj h
      subst h
      exact hk
    · obtain ⟨x21, e21, h⟩ := bd h
      obtain ⟨μ26, e26, h⟩ := bd h
      have hk := (kq_paZ e26).trans hk
      obtain ⟨x28, e28, h⟩ := bd h
      obtain ⟨x33, e33, h⟩ := bd h
      obtain ⟨μ36, e36, h⟩ := bd h
      have hk := (kq_paI e36).trans hk
      obtain ⟨x38, e38, h⟩ := bd h
      obtain ⟨x43, e43, h⟩ := bd h
      obtain ⟨μ46, e46, h⟩ := bd h
      have hk := (kq_paI e46).trans hk
      obtain ⟨x48, e48, h⟩ := bd h
      obtain ⟨x53, e53, h⟩ := bd h
      obtain ⟨μ56, e56, h⟩ := bd h
      have hk := (kq_paL e56).trans hk
      obtain ⟨b59, w59, h⟩ := bd h
      have hk := (t_X11_keep_W59 w59).trans hk
      exact (t_X11_keep_J90 h).trans hk
theorem t_X11_kept_J113 {a0 : Nat} {l4 : Int32} {μ : Mm} {x : (Int32 × Mm)} (h : f_X11_kept_J113 a0 l4 μ = some x) : tl ((fun (q : (Int32 × Mm)) => q.2) x) = tl μ := by
  have hk : tl μ = tl μ := rfl
  obtain ⟨μ115, e115, h⟩ := bd h
  have hk := (kq_pfI e115).trans hk
  have h := Option.some.inj h
  subst h
  exact hk
theorem t_X11_kept_J107 {a0 : Nat} {l1 : Int32} {l2 : Int32} {l3 : Int32} {l4 : Int32} {l5 : Int32} {μ : Mm} {x : ((Int32 × Int32 × Mm) ⊕ (Int32 × Mm))} (h : f_X11_kept_J107 a0 l1 l2 l3 l4 l5 μ = some x) : tl ((sm (fun (q : Int32 × Int32 × Mm) => q.2.2) (fun (q : Int32 × Mm) => q.2)) x) = tl μ := by
  have hk : tl μ = tl μ := rfl
  obtain ⟨v107, e107, h⟩ := bd h
  have h := Option.some.inj h
  subst h
  exact hk
theorem t_X11_kept_J67 {a0 : Nat} {l1 : Int32} {l2 : Int32} {l3 : Int32} {l4 : Int32} {l5 : Int32} {μ : Mm} {x : ((Int32 × Int32 × Mm) ⊕ (Int32 × Mm))} (h : f_X11_kept_J67 a0 l1 l2 l3 l4 l5 μ = some x) : tl ((sm (fun (q : Int32 × Int32 × Mm) => q.2.2) (fun (q : Int32 × Mm) => q.2)) x) = tl μ := by
  have hk : tl μ = tl μ := rfl
  obtain ⟨μ70, e70, h⟩ := bd h
  have hk := (kq_pfI e70).trans hk
  obtain ⟨x75, e75, h⟩ := bd h
  obtain ⟨x79, e79, h⟩ := bd h
  obtain ⟨x82, e82, h⟩ := bd h
  obtain ⟨x87, e87, h⟩ := bd h
  have hk := (t_X11_live e87).trans hk
  obtain ⟨x91, e91, h⟩ := bd h
  obtain ⟨x95, e95, h⟩ := bd h
  rcases ite_e h with ⟨_, h⟩ | ⟨_, h⟩
  · exact (t_X11_kept_J107 h).trans hk
  · exact (t_X11_kept_J107 h).trans hk
theorem t_X11_kept_L32 {a0 : Nat} {l1 : Int32} {l2 : Int32} {l3 : Int32} {s32 : Int32 × Int32 × Mm} {x : ((Int32 × Int32 × Mm) ⊕ (Int32 × Mm))} (h : f_X11_kept_L32 a0 l1 l2 l3 s32 = some x) : tl (sm (fun (q : Int32 × Int32 × Mm) => q.2.2) (fun (q : Int32 × Mm) => q.2) x) = tl ((fun (q : Int32 × Int32 × Mm) => q.2.2) s32) := by
  have hk : tl (s32.2.2) = tl (s32.2.2) := rfl
  obtain ⟨x36, e36, h⟩ := bd h
  obtain ⟨x40, e40, h⟩ := bd h
  rcases ite_e h with ⟨_, h⟩ | ⟨_, h⟩
  · have h := Option.some.inj h
    subst h
    exact hk
  · rcases ite_e h with ⟨_, h⟩ | ⟨_, h⟩
    · exact (t_X11_kept_J67 h).trans hk
    · obtain ⟨x53, e53, h⟩ := bd h
      obtain ⟨x58, e58, h⟩ := bd h
      rcases ite_e h with ⟨_, h⟩ | ⟨_, h⟩
      · exact (t_X11_kept_J67 h).trans hk
      · exact (t_X11_kept_J107 h).trans hk
theorem t_X11_kept_W32 {a0 : Nat} {l1 : Int32} {l2 : Int32} {l3 : Int32} {s32 : Int32 × Int32 × Mm} {b : Int32 × Mm} (h : whl (f_X11_kept_L32 a0 l1 l2 l3) s32 = some b) : tl ((fun (q : Int32 × Mm) => q.2) b) = tl ((fun (q : Int32 × Int32 × Mm) => q.2.2) s32) :=
  whl_tl (g := (fun (q : Int32 × Int32 × Mm) => q.2.2)) (gb := (fun (q : Int32 × Mm) => q.2)) (fun s x hx => t_X11_kept_L32 hx) h
theorem t_X11_kept {a0 : Nat} {l1 : Int32} {l2 : Int32} {l3 : Int32} {μ : Mm} {x : (Int32 × Mm)} (h : f_X11_kept a0 l1 l2 l3 μ = some x) : tl ((fun (q : (Int32 × Mm)) => q.2) x) = tl μ := by
  have hk : tl μ = tl μ := rfl
  obtain ⟨_, h⟩ := ite_p h
  obtain ⟨x2, e2, h⟩ := bd h
  rcases ite_e h with ⟨_, h⟩ | ⟨_, h⟩
  · have h := Option.some.inj h
    subst h
    exact hk
  · obtain ⟨x10, e10, h⟩ := bd h
    rcases ite_e h with ⟨_, h⟩ | ⟨_, h⟩
    · have h := Option.some.inj h
      subst h
      exact hk
    · obtain ⟨x17, e17, h⟩ := bd h
      rcases ite_e h with ⟨_, h⟩ | ⟨_, h⟩
      · have h := Option.some.inj h
        subst h
        exact hk
      · obtain ⟨b32, w32, h⟩ := bd h
        have hk := (t_X11_kept_W32 w32).trans hk
        exact (t_X11_kept_J113 h).trans hk
theorem t_X11_knowers_J163 {l4 : Int32} {l5 : Int32} {l6 : Int32} {l7 : Int32} {μ : Mm} {x : (Int32 × Mm)} (h : f_X11_knowers_J163 l4 l5 l6 l7 μ = some x) : tl ((fun (q : (Int32 × Mm)) => q.2) x) = tl μ := by
  have hk : tl μ = tl μ := rfl
  rcases ite_e h with ⟨_, h⟩ | ⟨_, h⟩
  · have h := Option.some.inj h
    subst h
    exact hk
  · rcases ite_e h with ⟨_, h⟩ | ⟨_, h⟩
    · have h := Option.some.inj h
      subst h
      exact hk
    · have h := Option.some.inj h
      subst h
      exact hk
theorem t_X11_knowers_J157 {a0 : Nat} {l1 : Int32} {l2 : Int32} {l4 : Int32} {l5 : Int32} {l6 : Int32} {l7 : Int32} {l8 : Int32} {μ : Mm} {x : ((Int32 × Int32 × Int32 × Int32 × Mm) ⊕ (Int32 × Int32 × Int32 × Mm))} (h : f_X11_knowers_J157 a0 l1 l2 l4 l5 l6 l7 l8 μ = some x) : tl ((sm (fun (q : Int32 × Int32 × Int32 × Int32 × Mm) => q.2.2.2.2) (fun (q : Int32 × Int32 × Int32 × Mm) => q.2.2.2)) x) = tl μ := by
  have hk : tl μ = tl μ := rfl
  obtain ⟨v157, e157, h⟩ := bd h
  have h := Option.some.inj h
  subst h
  exact hk
theorem t_X11_knowers_J143 {a0 : Nat} {l1 : Int32} {l2 : Int32} {l4 : Int32} {l5 : Int32} {l6 : Int32} {l7 : Int32} {l8 : Int32} {l9 : Int32} {μ : Mm} {x : ((Int32 × Int32 × Int32 × Int32 × Mm) ⊕ (Int32 × Int32 × Int32 × Mm))} (h : f_X11_knowers_J143 a0 l1 l2 l4 l5 l6 l7 l8 l9 μ = some x) : tl ((sm (fun (q : Int32 × Int32 × Int32 × Int32 × Mm) => q.2.2.2.2) (fun (q : Int32 × Int32 × Int32 × Mm) => q.2.2.2)) x) = tl μ := by
  have hk : tl μ = tl μ := rfl
  obtain ⟨v148, e148, h⟩ := bd h
  obtain ⟨v155, e155, h⟩ := bd h
  exact (t_X11_knowers_J157 h).trans hk
theorem t_X11_knowers_L62 {a0 : Nat} {l1 : Int32} {l2 : Int32} {l4 : Int32} {s62 : Int32 × Int32 × Int32 × Int32 × Mm} {x : ((Int32 × Int32 × Int32 × Int32 × Mm) ⊕ (Int32 × Int32 × Int32 × Mm))} (h : f_X11_knowers_L62 a0 l1 l2 l4 s62 = some x) : tl (sm (fun (q : Int32 × Int32 × Int32 × Int32 × Mm) => q.2.2.2.2) (fun (q : Int32 × Int32 × Int32 × Mm) => q.2.2.2) x) = tl ((fun (q : Int32 × Int32 × Int32 × Int32 × Mm) => q.2.2.2.2) s62) := by
  have hk : tl (s62.2.2.2.2) = tl (s62.2.2.2.2) := rfl
  obtain ⟨x65, e65, h⟩ := bd h
  rcases ite_e h with ⟨_, h⟩ | ⟨_, h⟩
  · have h := Option.some.inj h
    subst h
    exact hk
  · obtain ⟨x74, e74, h⟩ := bd h
    rcases ite_e h with ⟨_, h⟩ | ⟨_, h⟩
    · exact (t_X11_knowers_J157 h).trans hk
    · obtain ⟨x88, e88, h⟩ := bd h
      obtain ⟨x93, e93, h⟩ := bd h
      obtain ⟨x98, e98, h⟩ := bd h
      have hk := (t_X11_live e98).trans hk
      obtain ⟨b107, w107, h⟩ := bd h
      exact (t_X11_knowers_J143 h).trans hk
theorem t_X11_knowers_W62 {a0 : Nat} {l1 : Int32} {l2 : Int32} {l4 : Int32} {s62 : Int32 × Int32 × Int32 × Int32 × Mm} {b : Int32 × Int32 × Int32 × Mm} (h : whl (f_X11_knowers_L62 a0 l1 l2 l4) s62 = some b) : tl ((fun (q : Int32 × Int32 × Int32 × Mm) => q.2.2.2) b) = tl ((fun (q : Int32 × Int32 × Int32 × Int32 × Mm) => q.2.2.2.2) s62) :=
  whl_tl (g := (fun (q : Int32 × Int32 × Int32 × Int32 × Mm) => q.2.2.2.2)) (gb := (fun (q : Int32 × Int32 × Int32 × Mm) => q.2.2.2)) (fun s x hx => t_X11_knowers_L62 hx) h
theorem t_X11_knowers {a0 : Nat} {l1 : Int32} {l2 : Int32} {l3 : Int32} {l4 : Int32} {μ : Mm} {x : (Int32 × Mm)} (h : f_X11_knowers a0 l1 l2 l3 l4 μ = some x) : tl ((fun (q : (Int32 × Mm)) => q.2) x) = tl μ := by
  have hk : tl μ = tl μ := rfl
  obtain ⟨_, h⟩ := ite_p h
  obtain ⟨x2, e2, h⟩ := bd h
  rcases ite_e h with ⟨_, h⟩ | ⟨_, h⟩
  · have h := Option.some.inj h
    subst h
    exact hk
  · obtain ⟨x9, e9, h⟩ := bd h
    rcases ite_e h with ⟨_, h⟩ | ⟨_, h⟩
    · have h := Option.some.inj h
      subst h
      exact hk
    · obtain ⟨x16, e16, h⟩ := bd h
      rcases ite_e h with ⟨_, h⟩ | ⟨_, h⟩
      · have h := Option.some.inj h
        subst h
        exact hk
      · obtain ⟨x26, e26, h⟩ := bd h
        rcases ite_e h with ⟨_, h⟩ | ⟨_, h⟩
        · have h := Option.some.inj h
          subst h
          exact hk
        · obtain ⟨x37, e37, h⟩ := bd h
          have hk := (t_X11_findFits e37).trans hk
          obtain ⟨x46, e46, h⟩ := bd h
          obtain ⟨x50, e50, h⟩ := bd h
          obtain ⟨v54, e54, h⟩ := bd h
          obtain ⟨b62, w62, h⟩ := bd h
          have hk := (t_X11_knowers_W62 w62).trans hk
          exact (t_X11_knowers_J163 h).trans hk
theorem t_X11_knows {a0 : Nat} {l1 : Int32} {l2 : Int32} {l3 : Int32} {μ : Mm} {x : (Int32 × Mm)} (h : f_X11_knows a0 l1 l2 l3 μ = some x) : tl ((fun (q : (Int32 × Mm)) => q.2) x) = tl μ := by
  have hk : tl μ = tl μ := rfl
  obtain ⟨_, h⟩ := ite_p h
  obtain ⟨x2, e2, h⟩ := bd h
  rcases ite_e h with ⟨_, h⟩ | ⟨_, h⟩
  · have h := Option.some.inj h
    subst h
    exact hk
  · obtain ⟨x9, e9, h⟩ := bd h
    rcases ite_e h with ⟨_, h⟩ | ⟨_, h⟩
    · have h := Option.some.inj h
      subst h
      exact hk
    · obtain ⟨x16, e16, h⟩ := bd h
      rcases ite_e h with ⟨_, h⟩ | ⟨_, h⟩
      · have h := Option.some.inj h
        subst h
        exact hk
      · obtain ⟨x27, e27, h⟩ := bd h
        obtain ⟨x31, e31, h⟩ := bd h
        obtain ⟨x34, e34, h⟩ := bd h
        obtain ⟨x38, e38, h⟩ := bd h
        have hk := (t_X11_live e38).trans hk
        obtain ⟨x42, e42, h⟩ := bd h
        obtain ⟨x46, e46, h⟩ := bd h
        have h := Option.some.inj h
        subst h
        exact hk
theorem t_X11_lot_J114 {a0 : Nat} {l5 : Int32} {k0 : Int32} {μ : Mm} {x : (Int32 × Mm)} (h : f_X11_lot_J114 a0 l5 k0 μ = some x) : tl ((fun (q : (Int32 × Mm)) => q.2) x) = tl μ := by
  have hk : tl μ = tl μ := rfl
  obtain ⟨x117, e117, h⟩ := bd h
  obtain ⟨x120, e120, h⟩ := bd h
  obtain ⟨_, h⟩ := ite_n h
  have h := Option.some.inj h
  subst h
  exact hk
theorem t_X11_lot_J100 {a0 : Nat} {l4 : Int32} {l5 : Int32} {μ : Mm} {x : (Int32 × Mm)} (h : f_X11_lot_J100 a0 l4 l5 μ = some x) : tl ((fun (q : (Int32 × Mm)) => q.2) x) = tl μ := by
  have hk : tl μ = tl μ := rfl
  rcases ite_e h with ⟨_, h⟩ | ⟨_, h⟩
  · exact (t_X11_lot_J114 h).trans hk
  · obtain ⟨x106, e106, h⟩ := bd h
    exact (t_X11_lot_J114 h).trans hk
theorem t_X11_lot_J91 {a0 : Nat} {l1 : Int32} {l2 : Int32} {l3 : Int32} {l4 : Int32} {l6 : Int32} {k0 : Int32} {k1 : Int32} {μ : Mm} {x : ((Int32 × Int32 × Mm) ⊕ (Int32 × Mm))} (h : f_X11_lot_J91 a0 l1 l2 l3 l4 l6 k0 k1 μ = some x) : tl ((sm (fun (q : Int32 × Int32 × Mm) => q.2.2) (fun (q : Int32 × Mm) => q.2)) x) = tl μ := by
  have hk : tl μ = tl μ := rfl
  obtain ⟨v92, e92, h⟩ := bd h
  obtain ⟨v94, e94, h⟩ := bd h
  have h := Option.some.inj h
  subst h
  exact hk
theorem t_X11_lot_L33 {a0 : Nat} {l1 : Int32} {l2 : Int32} {l3 : Int32} {l4 : Int32} {s33 : Int32 × Int32 × Mm} {x : ((Int32 × Int32 × Mm) ⊕ (Int32 × Mm))} (h : f_X11_lot_L33 a0 l1 l2 l3 l4 s33 = some x) : tl (sm (fun (q : Int32 × Int32 × Mm) => q.2.2) (fun (q : Int32 × Mm) => q.2) x) = tl ((fun (q : Int32 × Int32 × Mm) => q.2.2) s33) := by
  have hk : tl (s33.2.2) = tl (s33.2.2) := rfl
  obtain ⟨x36, e36, h⟩ := bd h
  rcases ite_e h with ⟨_, h⟩ | ⟨_, h⟩
  · have h := Option.some.inj h
    subst h
    exact hk
  · obtain ⟨x44, e44, h⟩ := bd h
    obtain ⟨x49, e49, h⟩ := bd h
    obtain ⟨x54, e54, h⟩ := bd h
    have hk := (t_X11_live e54).trans hk
    obtain ⟨x59, e59, h⟩ := bd h
    rcases ite_e h with ⟨_, h⟩ | ⟨_, h⟩
    · exact (t_X11_lot_J91 h).trans hk
    · obtain ⟨x78, e78, h⟩ := bd h
      obtain ⟨x82, e82, h⟩ := bd h
      rcases ite_e h with ⟨_, h⟩ | ⟨_, h⟩
      · exact (t_X11_lot_J91 h).trans hk
      · exact (t_X11_lot_J91 h).trans hk
theorem t_X11_lot_W33 {a0 : Nat} {l1 : Int32} {l2 : Int32} {l3 : Int32} {l4 : Int32} {s33 : Int32 × Int32 × Mm} {b : Int32 × Mm} (h : whl (f_X11_lot_L33 a0 l1 l2 l3 l4) s33 = some b) : tl ((fun (q : Int32 × Mm) => q.2) b) = tl ((fun (q : Int32 × Int32 × Mm) => q.2.2) s33) :=
  whl_tl (g := (fun (q : Int32 × Int32 × Mm) => q.2.2)) (gb := (fun (q : Int32 × Mm) => q.2)) (fun s x hx => t_X11_lot_L33 hx) h
theorem t_X11_lot {a0 : Nat} {l1 : Int32} {l2 : Int32} {l3 : Int32} {l4 : Int32} {μ : Mm} {x : (Int32 × Mm)} (h : f_X11_lot a0 l1 l2 l3 l4 μ = some x) : tl ((fun (q : (Int32 × Mm)) => q.2) x) = tl μ := by
  have hk : tl μ = tl μ := rfl
  obtain ⟨_, h⟩ := ite_p h
  obtain ⟨x2, e2, h⟩ := bd h
  rcases ite_e h with ⟨_, h⟩ | ⟨_, h⟩
  · have h := Option.some.inj h
    subst h
    exact hk
  · obtain ⟨x9, e9, h⟩ := bd h
    rcases ite_e h with ⟨_, h⟩ | ⟨_, h⟩
    · have h := Option.some.inj h
      subst h
      exact hk
    · obtain ⟨x18, e18, h⟩ := bd h
      rcases ite_e h with ⟨_, h⟩ | ⟨_, h⟩
      · have h := Option.some.inj h
        subst h
        exact hk
      · obtain ⟨b33, w33, h⟩ := bd h
        have hk := (t_X11_lot_W33 w33).trans hk
        exact (t_X11_lot_J100 h).trans hk
theorem t_X11_lotDay_J58 {a0 : Nat} {l3 : Int32} {k0 : Int32} {μ : Mm} {x : (Int32 × Mm)} (h : f_X11_lotDay_J58 a0 l3 k0 μ = some x) : tl ((fun (q : (Int32 × Mm)) => q.2) x) = tl μ := by
  have hk : tl μ = tl μ := rfl
  obtain ⟨x60, e60, h⟩ := bd h
  obtain ⟨x63, e63, h⟩ := bd h
  obtain ⟨_, h⟩ := ite_n h
  have h := Option.some.inj h
  subst h
  exact hk
theorem t_X11_lotDay_J46 {a0 : Nat} {l2 : Int32} {l3 : Int32} {μ : Mm} {x : (Int32 × Mm)} (h : f_X11_lotDay_J46 a0 l2 l3 μ = some x) : tl ((fun (q : (Int32 × Mm)) => q.2) x) = tl μ := by
  have hk : tl μ = tl μ := rfl
  rcases ite_e h with ⟨_, h⟩ | ⟨_, h⟩
  · exact (t_X11_lotDay_J58 h).trans hk
  · obtain ⟨x51, e51, h⟩ := bd h
    exact (t_X11_lotDay_J58 h).trans hk
theorem t_X11_lotDay_L16 {a0 : Nat} {l1 : Int32} {l2 : Int32} {s16 : Int32 × Int32 × Mm} {x : ((Int32 × Int32 × Mm) ⊕ (Int32 × Mm))} (h : f_X11_lotDay_L16 a0 l1 l2 s16 = some x) : tl (sm (fun (q : Int32 × Int32 × Mm) => q.2.2) (fun (q : Int32 × Mm) => q.2) x) = tl ((fun (q : Int32 × Int32 × Mm) => q.2.2) s16) := by
  have hk : tl (s16.2.2) = tl (s16.2.2) := rfl
  obtain ⟨x19, e19, h⟩ := bd h
  rcases ite_e h with ⟨_, h⟩ | ⟨_, h⟩
  · have h := Option.some.inj h
    subst h
    exact hk
  · obtain ⟨x28, e28, h⟩ := bd h
    obtain ⟨x33, e33, h⟩ := bd h
    obtain ⟨x35, e35, h⟩ := bd h
    have hk := (t_X11_allDay e35).trans hk
    obtain ⟨v39, e39, h⟩ := bd h
    obtain ⟨v40, e40, h⟩ := bd h
    have h := Option.some.inj h
    subst h
    exact hk
theorem t_X11_lotDay_W16 {a0 : Nat} {l1 : Int32} {l2 : Int32} {s16 : Int32 × Int32 × Mm} {b : Int32 × Mm} (h : whl (f_X11_lotDay_L16 a0 l1 l2) s16 = some b) : tl ((fun (q : Int32 × Mm) => q.2) b) = tl ((fun (q : Int32 × Int32 × Mm) => q.2.2) s16) :=
  whl_tl (g := (fun (q : Int32 × Int32 × Mm) => q.2.2)) (gb := (fun (q : Int32 × Mm) => q.2)) (fun s x hx => t_X11_lotDay_L16 hx) h
theorem t_X11_lotDay {a0 : Nat} {l1 : Int32} {l2 : Int32} {μ : Mm} {x : (Int32 × Mm)} (h : f_X11_lotDay a0 l1 l2 μ = some x) : tl ((fun (q : (Int32 × Mm)) => q.2) x) = tl μ := by
  have hk : tl μ = tl μ := rfl
  obtain ⟨_, h⟩ := ite_p h
  obtain ⟨x2, e2, h⟩ := bd h
  rcases ite_e h with ⟨_, h⟩ | ⟨_, h⟩
  · have h := Option.some.inj h
    subst h
    exact hk
  · obtain ⟨b16, w16, h⟩ := bd h
    have hk := (t_X11_lotDay_W16 w16).trans hk
    exact (t_X11_lotDay_J46 h).trans hk
theorem t_X11_metBy_J128 {a0 : Nat} {l2 : Int32} {μ : Mm} {x : (Int32 × Mm)} (h : f_X11_metBy_J128 a0 l2 μ = some x) : tl ((fun (q : (Int32 × Mm)) => q.2) x) = tl μ := by
  have hk : tl μ = tl μ := rfl
  obtain ⟨μ130, e130, h⟩ := bd h
  have hk := (kq_pfI e130).trans hk
  have h := Option.some.inj h
  subst h
  exact hk
theorem t_X11_metBy_J122 {a0 : Nat} {l2 : Int32} {l3 : Int32} {μ : Mm} {x : ((Int32 × Int32 × Mm) ⊕ (Int32 × Mm))} (h : f_X11_metBy_J122 a0 l2 l3 μ = some x) : tl ((sm (fun (q : Int32 × Int32 × Mm) => q.2.2) (fun (q : Int32 × Mm) => q.2)) x) = tl μ := by
  have hk : tl μ = tl μ := rfl
  obtain ⟨v122, e122, h⟩ := bd h
  have h := Option.some.inj h
  subst h
  exact hk
theorem t_X11_metBy_L13 {a0 : Nat} {s13 : Int32 × Int32 × Mm} {x : ((Int32 × Int32 × Mm) ⊕ (Int32 × Mm))} (h : f_X11_metBy_L13 a0 s13 = some x) : tl (sm (fun (q : Int32 × Int32 × Mm) => q.2.2) (fun (q : Int32 × Mm) => q.2) x) = tl ((fun (q : Int32 × Int32 × Mm) => q.2.2) s13) := by
  have hk : tl (s13.2.2) = tl (s13.2.2) := rfl
  rcases ite_e h with ⟨_, h⟩ | ⟨_, h⟩
  · have h := Option.some.inj h
    subst h
    exact hk
  · obtain ⟨x21, e21, h⟩ := bd h
    obtain ⟨x25, e25, h⟩ := bd h
    obtain ⟨x28, e28, h⟩ := bd h
    obtain ⟨x32, e32, h⟩ := bd h
    have hk := (t_X11_byDay e32).trans hk
    obtain ⟨x37, e37, h⟩ := bd h
    obtain ⟨x41, e41, h⟩ := bd h
    obtain ⟨x44, e44, h⟩ := bd h
    obtain ⟨x48, e48, h⟩ := bd h
    have hk := (t_X11_byNight e48).trans hk
    obtain ⟨b54, w54, h⟩ := bd h
    exact (t_X11_metBy_J122 h).trans hk
theorem t_X11_metBy_W13 {a0 : Nat} {s13 : Int32 × Int32 × Mm} {b : Int32 × Mm} (h : whl (f_X11_metBy_L13 a0) s13 = some b) : tl ((fun (q : Int32 × Mm) => q.2) b) = tl ((fun (q : Int32 × Int32 × Mm) => q.2.2) s13) :=
  whl_tl (g := (fun (q : Int32 × Int32 × Mm) => q.2.2)) (gb := (fun (q : Int32 × Mm) => q.2)) (fun s x hx => t_X11_metBy_L13 hx) h
theorem t_X11_metBy {a0 : Nat} {l1 : Int32} {μ : Mm} {x : (Int32 × Mm)} (h : f_X11_metBy a0 l1 μ = some x) : tl ((fun (q : (Int32 × Mm)) => q.2) x) = tl μ := by
  have hk : tl μ = tl μ := rfl
  obtain ⟨_, h⟩ := ite_p h
  obtain ⟨μ4, e4, h⟩ := bd h
  have hk := (kq_pfI e4).trans hk
  obtain ⟨x8, e8, h⟩ := bd h
  have hk := (t_X11_forget e8).trans hk
  obtain ⟨b13, w13, h⟩ := bd h
  have hk := (t_X11_metBy_W13 w13).trans hk
  exact (t_X11_metBy_J128 h).trans hk
theorem t_X11_met {a0 : Nat} {l1 : Int32} {μ : Mm} {x : (Int32 × Mm)} (h : f_X11_met a0 l1 μ = some x) : tl ((fun (q : (Int32 × Mm)) => q.2) x) = tl μ := by
  have hk : tl μ = tl μ := rfl
  obtain ⟨_, h⟩ := ite_p h
  obtain ⟨x2, e2, h⟩ := bd h
  rcases ite_e h with ⟨_, h⟩ | ⟨_, h⟩
  · have h := Option.some.inj h
    subst h
    exact hk
  · obtain ⟨x10, e10, h⟩ := bd h
    have hk := (t_X11_metBy e10).trans hk
    have h := Option.some.inj h
    subst h
    exact hk
theorem t_X11_number_J104 {a0 : Nat} {l2 : Int64} {μ : Mm} {x : (Int32 × Mm)} (h : f_X11_number_J104 a0 l2 μ = some x) : tl ((fun (q : (Int32 × Mm)) => q.2) x) = tl μ := by
  have hk : tl μ = tl μ := rfl
  obtain ⟨x106, e106, h⟩ := bd h
  have h := Option.some.inj h
  subst h
  exact hk
theorem t_X11_number {a0 : Nat} {μ : Mm} {x : (Int32 × Mm)} (h : f_X11_number a0 μ = some x) : tl ((fun (q : (Int32 × Mm)) => q.2) x) = tl μ := by
  have hk : tl μ = tl μ := rfl
  obtain ⟨_, h⟩ := ite_p h
  obtain ⟨x1, e1, h⟩ := bd h
  obtain ⟨μ7, e7, h⟩ := bd h
  have hk := (kq_pfI e7).trans hk
  obtain ⟨x12, e12, h⟩ := bd h
  obtain ⟨x16, e16, h⟩ := bd h
  rcases ite_e h with ⟨_, h⟩ | ⟨_, h⟩
  · obtain ⟨b27, w27, h⟩ := bd h
    rcases b27 with b27 | b27
    · have h := Option.some.inj h
      subst h
      exact hk
    · exact (t_X11_number_J104 h).trans hk
  · have h := Option.some.inj h
    subst h
    exact hk
theorem t_X11_saidTo_J95 {a0 : Nat} {l1 : Int32} {l2 : Int32} {l4 : Int32} {l5 : Int32} {μ : Mm} {x : ((Int32 × Int32 × Mm) ⊕ ((Mm) ⊕ ((Int32 × Mm) ⊕ (Mm))))} (h : f_X11_saidTo_J95 a0 l1 l2 l4 l5 μ = some x) : tl ((sm (fun (q : Int32 × Int32 × Mm) => q.2.2) (sm (fun (q : Mm) => q) (sm (fun (q : Int32 × Mm) => q.2) (fun (q : Mm) => q)))) x) = tl μ := by
  have hk : tl μ = tl μ := rfl
  obtain ⟨v95, e95, h⟩ := bd h
  have h := Option.some.inj h
  subst h
  exact hk
theorem t_X11_saidTo_L18 {a0 : Nat} {l1 : Int32} {l2 : Int32} {s18 : Int32 × Int32 × Mm} {x : ((Int32 × Int32 × Mm) ⊕ ((Mm) ⊕ ((Int32 × Mm) ⊕ (Mm))))} (h : f_X11_saidTo_L18 a0 l1 l2 s18 = some x) : tl (sm (fun (q : Int32 × Int32 × Mm) => q.2.2) (sm (fun (q : Mm) => q) (sm (fun (q : Int32 × Mm) => q.2) (fun (q : Mm) => q))) x) = tl ((fun (q : Int32 × Int32 × Mm) => q.2.2) s18) := by
  have hk : tl (s18.2.2) = tl (s18.2.2) := rfl
  rcases ite_e h with ⟨_, h⟩ | ⟨_, h⟩
  · have h := Option.some.inj h
    subst h
    exact hk
  · obtain ⟨x30, e30, h⟩ := bd h
    rcases ite_e h with ⟨_, h⟩ | ⟨_, h⟩
    · obtain ⟨x42, e42, h⟩ := bd h
      rcases ite_e h with ⟨_, h⟩ | ⟨_, h⟩
      · have h := Option.some.inj h
        subst h
        exact hk
      · rcases ite_e h with ⟨_, h⟩ | ⟨_, h⟩
        · have h := Option.some.inj h
          subst h
          exact hk
        · obtain ⟨x62, e62, h⟩ := bd h
          obtain ⟨x66, e66, h⟩ := bd h
          obtain ⟨μ71, e71, h⟩ := bd h
          have hk := (kq_paI e71).trans hk
          obtain ⟨x74, e74, h⟩ := bd h
          obtain ⟨μ79, e79, h⟩ := bd h
          have hk := (kq_pfI e79).trans hk
          rcases ite_e h with ⟨_, h⟩ | ⟨_, h⟩
          · have h := Option.some.inj h
            subst h
            exact hk
          · exact (t_X11_saidTo_J95 h).trans hk
    · exact (t_X11_saidTo_J95 h).trans hk
theorem t_X11_saidTo_W18 {a0 : Nat} {l1 : Int32} {l2 : Int32} {s18 : Int32 × Int32 × Mm} {b : (Mm) ⊕ ((Int32 × Mm) ⊕ (Mm))} (h : whl (f_X11_saidTo_L18 a0 l1 l2) s18 = some b) : tl ((sm (fun (q : Mm) => q) (sm (fun (q : Int32 × Mm) => q.2) (fun (q : Mm) => q))) b) = tl ((fun (q : Int32 × Int32 × Mm) => q.2.2) s18) :=
  whl_tl (g := (fun (q : Int32 × Int32 × Mm) => q.2.2)) (gb := (sm (fun (q : Mm) => q) (sm (fun (q : Int32 × Mm) => q.2) (fun (q : Mm) => q)))) (fun s x hx => t_X11_saidTo_L18 hx) h
theorem t_X11_saidTo {a0 : Nat} {l1 : Int32} {l2 : Int32} {l3 : Int32} {μ : Mm} {x : (Int32 × Mm)} (h : f_X11_saidTo a0 l1 l2 l3 μ = some x) : tl ((fun (q : (Int32 × Mm)) => q.2) x) = tl μ := by
  have hk : tl μ = tl μ := rfl
  obtain ⟨_, h⟩ := ite_p h
  obtain ⟨μ2, e2, h⟩ := bd h
  have hk := (kq_pfI e2).trans hk
  obtain ⟨x6, e6, h⟩ := bd h
  obtain ⟨μ11, e11, h⟩ := bd h
  have hk := (kq_paI e11).trans hk
  obtain ⟨b18, w18, h⟩ := bd h
  have hk := (t_X11_saidTo_W18 w18).trans hk
  rcases b18 with b18 | b18
  · have h := Option.some.inj h
    subst h
    exact hk
  · rcases b18 with b18 | b18
    · have h := Option.some.inj h
      subst h
      exact hk
    · have h := Option.some.inj h
      subst h
      exact hk
theorem t_X11_over_J46  {μ : Mm} {x : (Int32 × Mm)} (h : f_X11_over_J46  μ = some x) : tl ((fun (q : (Int32 × Mm)) => q.2) x) = tl μ := by
  have hk : tl μ = tl μ := rfl
  have h := Option.some.inj h
  subst h
  exact hk
theorem t_X11_over {a0 : Nat} {l1 : Int32} {l2 : Int32} {l3 : Int32} {l4 : Int32} {μ : Mm} {x : (Int32 × Mm)} (h : f_X11_over a0 l1 l2 l3 l4 μ = some x) : tl ((fun (q : (Int32 × Mm)) => q.2) x) = tl μ := by
  have hk : tl μ = tl μ := rfl
  obtain ⟨_, h⟩ := ite_p h
  obtain ⟨x4, e4, h⟩ := bd h
  rcases ite_e h with ⟨_, h⟩ | ⟨_, h⟩
  · have h := Option.some.inj h
    subst h
    exact hk
  · rcases ite_e h with ⟨_, h⟩ | ⟨_, h⟩
    · rcases ite_e h with ⟨_, h⟩ | ⟨_, h⟩
      · have h := Option.some.inj h
        subst h
        exact hk
      · obtain ⟨x30, e30, h⟩ := bd h
        have hk := (t_X11_saidTo e30).trans hk
        rcases ite_e h with ⟨_, h⟩ | ⟨_, h⟩
        · exact (t_X11_over_J46 h).trans hk
        · obtain ⟨x40, e40, h⟩ := bd h
          rcases ite_e h with ⟨_, h⟩ | ⟨_, h⟩
          · obtain ⟨x51, e51, h⟩ := bd h
            obtain ⟨x56, e56, h⟩ := bd h
            have h := Option.some.inj h
            subst h
            exact hk
          · exact (t_X11_over_J46 h).trans hk
    · have h := Option.some.inj h
      subst h
      exact hk
theorem t_X11_parts_J140 {a0 : Nat} {l1 : Int32} {l2 : Int32} {μ : Mm} {x : (Int64 × Mm)} (h : f_X11_parts_J140 a0 l1 l2 μ = some x) : tl ((fun (q : (Int64 × Mm)) => q.2) x) = tl μ := by
  have hk : tl μ = tl μ := rfl
  obtain ⟨x141, e141, h⟩ := bd h
  obtain ⟨x150, e150, h⟩ := bd h
  have h := Option.some.inj h
  subst h
  exact hk
theorem t_X11_parts_J134 {a0 : Nat} {l1 : Int32} {l2 : Int32} {l3 : Int32} {μ : Mm} {x : ((Int32 × Mm) ⊕ (Mm))} (h : f_X11_parts_J134 a0 l1 l2 l3 μ = some x) : tl ((sm (fun (q : Int32 × Mm) => q.2) (fun (q : Mm) => q)) x) = tl μ := by
  have hk : tl μ = tl μ := rfl
  obtain ⟨v134, e134, h⟩ := bd h
  have h := Option.some.inj h
  subst h
  exact hk
theorem t_X11_parts_J114 {a0 : Nat} {l1 : Int32} {l2 : Int32} {l3 : Int32} {l4 : Int32} {l5 : Int64} {μ : Mm} {x : ((Int32 × Mm) ⊕ (Mm))} (h : f_X11_parts_J114 a0 l1 l2 l3 l4 l5 μ = some x) : tl ((sm (fun (q : Int32 × Mm) => q.2) (fun (q : Mm) => q)) x) = tl μ := by
  have hk : tl μ = tl μ := rfl
  obtain ⟨x115, e115, h⟩ := bd h
  obtain ⟨μ127, e127, h⟩ := bd h
  have hk := (kq_paL e127).trans hk
  obtain ⟨v128, e128, h⟩ := bd h
  have h := Option.some.inj h
  subst h
  exact hk
theorem t_X11_parts_J111 {a0 : Nat} {l1 : Int32} {l2 : Int32} {l3 : Int32} {l4 : Int32} {k0 : Int64} {k1 : Int64} {μ : Mm} {x : ((Int32 × Mm) ⊕ (Mm))} (h : f_X11_parts_J111 a0 l1 l2 l3 l4 k0 k1 μ = some x) : tl ((sm (fun (q : Int32 × Mm) => q.2) (fun (q : Mm) => q)) x) = tl μ := by
  have hk : tl μ = tl μ := rfl
  obtain ⟨v112, e112, h⟩ := bd h
  exact (t_X11_parts_J114 h).trans hk
theorem t_X11_parts_J55 {a0 : Nat} {l1 : Int32} {l2 : Int32} {l3 : Int32} {l4 : Int32} {k0 : Int64} {μ : Mm} {x : ((Int32 × Mm) ⊕ (Mm))} (h : f_X11_parts_J55 a0 l1 l2 l3 l4 k0 μ = some x) : tl ((sm (fun (q : Int32 × Mm) => q.2) (fun (q : Mm) => q)) x) = tl μ := by
  have hk : tl μ = tl μ := rfl
  rcases ite_e h with ⟨_, h⟩ | ⟨_, h⟩
  · exact (t_X11_parts_J114 h).trans hk
  · obtain ⟨x67, e67, h⟩ := bd h
    obtain ⟨x79, e79, h⟩ := bd h
    rcases ite_e h with ⟨_, h⟩ | ⟨_, h⟩
    · exact (t_X11_parts_J111 h).trans hk
    · obtain ⟨x91, e91, h⟩ := bd h
      obtain ⟨x105, e105, h⟩ := bd h
      exact (t_X11_parts_J111 h).trans hk
theorem t_X11_parts_J54 {a0 : Nat} {l1 : Int32} {l2 : Int32} {l3 : Int32} {l4 : Int32} {μ : Mm} {x : ((Int32 × Mm) ⊕ (Mm))} (h : f_X11_parts_J54 a0 l1 l2 l3 l4 μ = some x) : tl ((sm (fun (q : Int32 × Mm) => q.2) (fun (q : Mm) => q)) x) = tl μ := by
  have hk : tl μ = tl μ := rfl
  exact (t_X11_parts_J55 h).trans hk
theorem t_X11_parts_L34 {a0 : Nat} {l1 : Int32} {l2 : Int32} {l3 : Int32} {s34 : Int32 × Mm} {x : ((Int32 × Mm) ⊕ (Mm))} (h : f_X11_parts_L34 a0 l1 l2 l3 s34 = some x) : tl (sm (fun (q : Int32 × Mm) => q.2) (fun (q : Mm) => q) x) = tl ((fun (q : Int32 × Mm) => q.2) s34) := by
  have hk : tl (s34.2) = tl (s34.2) := rfl
  rcases ite_e h with ⟨_, h⟩ | ⟨_, h⟩
  · have h := Option.some.inj h
    subst h
    exact hk
  · rcases ite_e h with ⟨_, h⟩ | ⟨_, h⟩
    · rcases ite_e h with ⟨_, h⟩ | ⟨_, h⟩
      · exact (t_X11_parts_J55 h).trans hk
      · exact (t_X11_parts_J54 h).trans hk
    · exact (t_X11_parts_J54 h).trans hk
theorem t_X11_parts_W34 {a0 : Nat} {l1 : Int32} {l2 : Int32} {l3 : Int32} {s34 : Int32 × Mm} {b : Mm} (h : whl (f_X11_parts_L34 a0 l1 l2 l3) s34 = some b) : tl ((fun (q : Mm) => q) b) = tl ((fun (q : Int32 × Mm) => q.2) s34) :=
  whl_tl (g := (fun (q : Int32 × Mm) => q.2)) (gb := (fun (q : Mm) => q)) (fun s x hx => t_X11_parts_L34 hx) h
theorem t_X11_parts_L26 {a0 : Nat} {l1 : Int32} {l2 : Int32} {s26 : Int32 × Mm} {x : ((Int32 × Mm) ⊕ (Mm))} (h : f_X11_parts_L26 a0 l1 l2 s26 = some x) : tl (sm (fun (q : Int32 × Mm) => q.2) (fun (q : Mm) => q) x) = tl ((fun (q : Int32 × Mm) => q.2) s26) := by
  have hk : tl (s26.2) = tl (s26.2) := rfl
  rcases ite_e h with ⟨_, h⟩ | ⟨_, h⟩
  · have h := Option.some.inj h
    subst h
    exact hk
  · obtain ⟨b34, w34, h⟩ := bd h
    have hk := (t_X11_parts_W34 w34).trans hk
    exact (t_X11_parts_J134 h).trans hk
theorem t_X11_parts_W26 {a0 : Nat} {l1 : Int32} {l2 : Int32} {s26 : Int32 × Mm} {b : Mm} (h : whl (f_X11_parts_L26 a0 l1 l2) s26 = some b) : tl ((fun (q : Mm) => q) b) = tl ((fun (q : Int32 × Mm) => q.2) s26) :=
  whl_tl (g := (fun (q : Int32 × Mm) => q.2)) (gb := (fun (q : Mm) => q)) (fun s x hx => t_X11_parts_L26 hx) h
theorem t_X11_parts {a0 : Nat} {l1 : Int32} {l2 : Int32} {μ : Mm} {x : (Int64 × Mm)} (h : f_X11_parts a0 l1 l2 μ = some x) : tl ((fun (q : (Int64 × Mm)) => q.2) x) = tl μ := by
  have hk : tl μ = tl μ := rfl
  obtain ⟨_, h⟩ := ite_p h
  obtain ⟨x4, e4, h⟩ := bd h
  rcases ite_e h with ⟨_, h⟩ | ⟨_, h⟩
  · have h := Option.some.inj h
    subst h
    exact hk
  · obtain ⟨x14, e14, h⟩ := bd h
    rcases ite_e h with ⟨_, h⟩ | ⟨_, h⟩
    · have h := Option.some.inj h
      subst h
      exact hk
    · obtain ⟨b26, w26, h⟩ := bd h
      have hk := (t_X11_parts_W26 w26).trans hk
      exact (t_X11_parts_J140 h).trans hk
theorem t_X11_plan_J60 {a0 : Nat} {l1 : Int32} {l2 : Int32} {l3 : Int32} {μ : Mm} {x : ((Int32 × Int32 × Int32 × Mm) ⊕ (Int32 × Mm))} (h : f_X11_plan_J60 a0 l1 l2 l3 μ = some x) : tl ((sm (fun (q : Int32 × Int32 × Int32 × Mm) => q.2.2.2) (fun (q : Int32 × Mm) => q.2)) x) = tl μ := by
  have hk : tl μ = tl μ := rfl
  obtain ⟨v60, e60, h⟩ := bd h
  have h := Option.some.inj h
  subst h
  exact hk
theorem t_X11_plan_J55 {a0 : Nat} {l3 : Int32} {l4 : Int32} {μ : Mm} {x : ((Int32 × Int32 × Int32 × Mm) ⊕ (Int32 × Mm))} (h : f_X11_plan_J55 a0 l3 l4 μ = some x) : tl ((sm (fun (q : Int32 × Int32 × Int32 × Mm) => q.2.2.2) (fun (q : Int32 × Mm) => q.2)) x) = tl μ := by
  have hk : tl μ = tl μ := rfl
  exact (t_X11_plan_J60 h).trans hk
theorem t_X11_plan_L6 {a0 : Nat} {s6 : Int32 × Int32 × Int32 × Mm} {x : ((Int32 × Int32 × Int32 × Mm) ⊕ (Int32 × Mm))} (h : f_X11_plan_L6 a0 s6 = some x) : tl (sm (fun (q : Int32 × Int32 × Int32 × Mm) => q.2.2.2) (fun (q : Int32 × Mm) => q.2) x) = tl ((fun (q : Int32 × Int32 × Int32 × Mm) => q.2.2.2) s6) := by
  have hk : tl (s6.2.2.2) = tl (s6.2.2.2) := rfl
  obtain ⟨x8, e8, h⟩ := bd h
  rcases ite_e h with ⟨_, h⟩ | ⟨_, h⟩
  · have h := Option.some.inj h
    subst h
    exact hk
  · obtain ⟨x16, e16, h⟩ := bd h
    have hk := (t_X11_metBy e16).trans hk
    obtain ⟨x19, e19, h⟩ := bd h
    rcases ite_e h with ⟨_, h⟩ | ⟨_, h⟩
    · exact (t_X11_plan_J55 h).trans hk
    · rcases ite_e h with ⟨_, h⟩ | ⟨_, h⟩
      · exact (t_X11_plan_J60 h).trans hk
      · rcases ite_e h with ⟨_, h⟩ | ⟨_, h⟩
        · obtain ⟨x42, e42, h⟩ := bd h
          obtain ⟨x46, e46, h⟩ := bd h
          rcases ite_e h with ⟨_, h⟩ | ⟨_, h⟩
          · exact (t_X11_plan_J55 h).trans hk
          · exact (t_X11_plan_J60 h).trans hk
        · exact (t_X11_plan_J55 h).trans hk
theorem t_X11_plan_W6 {a0 : Nat} {s6 : Int32 × Int32 × Int32 × Mm} {b : Int32 × Mm} (h : whl (f_X11_plan_L6 a0) s6 = some b) : tl ((fun (q : Int32 × Mm) => q.2) b) = tl ((fun (q : Int32 × Int32 × Int32 × Mm) => q.2.2.2) s6) :=
  whl_tl (g := (fun (q : Int32 × Int32 × Int32 × Mm) => q.2.2.2)) (gb := (fun (q : Int32 × Mm) => q.2)) (fun s x hx => t_X11_plan_L6 hx) h
theorem t_X11_plan {a0 : Nat} {μ : Mm} {x : (Int32 × Mm)} (h : f_X11_plan a0 μ = some x) : tl ((fun (q : (Int32 × Mm)) => q.2) x) = tl μ := by
  have hk : tl μ = tl μ := rfl
  obtain ⟨_, h⟩ := ite_p h
  obtain ⟨b6, w6, h⟩ := bd h
  have hk := (t_X11_plan_W6 w6).trans hk
  have h := Option.some.inj h
  subst h
  exact hk
theorem t_X11_readNumber {a0 : Nat} {l1 : Int32} {l2 : Int32} {μ : Mm} {x : (Int32 × Mm)} (h : f_X11_readNumber a0 l1 l2 μ = some x) : tl ((fun (q : (Int32 × Mm)) => q.2) x) = tl μ := by
  have hk : tl μ = tl μ := rfl
  obtain ⟨_, h⟩ := ite_p h
  obtain ⟨x1, e1, h⟩ := bd h
  rcases ite_e h with ⟨_, h⟩ | ⟨_, h⟩
  · obtain ⟨x15, e15, h⟩ := bd h
    obtain ⟨x20, e20, h⟩ := bd h
    rcases ite_e h with ⟨_, h⟩ | ⟨_, h⟩
    · obtain ⟨x28, e28, h⟩ := bd h
      have hk := (t_X11_fails e28).trans hk
      obtain ⟨_, h⟩ := ite_p h
      have h := Option.some.inj h
      subst h
      exact hk
    · obtain ⟨x34, e34, h⟩ := bd h
      obtain ⟨μ37, e37, h⟩ := bd h
      have hk := (kq_pfI e37).trans hk
      obtain ⟨x41, e41, h⟩ := bd h
      have hk := (t_X11_scan e41).trans hk
      have h := Option.some.inj h
      subst h
      exact hk
  · obtain ⟨x10, e10, h⟩ := bd h
    have hk := (t_X11_fails e10).trans hk
    obtain ⟨_, h⟩ := ite_p h
    have h := Option.some.inj h
    subst h
    exact hk
theorem t_X11_readInto {a0 : Nat} {l1 : Nat} {l2 : Int32} {l3 : Int32} {l4 : Int32} {μ : Mm} {x : (Int32 × Mm)} (h : f_X11_readInto a0 l1 l2 l3 l4 μ = some x) : tl ((fun (q : (Int32 × Mm)) => q.2) x) = tl μ := by
  have hk : tl μ = tl μ := rfl
  obtain ⟨_, h⟩ := ite_p h
  obtain ⟨x4, e4, h⟩ := bd h
  have hk := (t_X11_readNumber e4).trans hk
  rcases ite_e h with ⟨_, h⟩ | ⟨_, h⟩
  · have h := Option.some.inj h
    subst h
    exact hk
  · obtain ⟨x15, e15, h⟩ := bd h
    obtain ⟨μ18, e18, h⟩ := bd h
    have hk := (kq_paI e18).trans hk
    have h := Option.some.inj h
    subst h
    exact hk
theorem t_X11_readWho {a0 : Nat} {l1 : Nat} {l2 : Int32} {μ : Mm} {x : (Int32 × Mm)} (h : f_X11_readWho a0 l1 l2 μ = some x) : tl ((fun (q : (Int32 × Mm)) => q.2) x) = tl μ := by
  have hk : tl μ = tl μ := rfl
  obtain ⟨_, h⟩ := ite_p h
  obtain ⟨x1, e1, h⟩ := bd h
  rcases ite_e h with ⟨_, h⟩ | ⟨_, h⟩
  · obtain ⟨x15, e15, h⟩ := bd h
    rcases ite_e h with ⟨_, h⟩ | ⟨_, h⟩
    · obtain ⟨x26, e26, h⟩ := bd h
      have hk := (t_X11_fails e26).trans hk
      obtain ⟨_, h⟩ := ite_p h
      have h := Option.some.inj h
      subst h
      exact hk
    · obtain ⟨μ33, e33, h⟩ := bd h
      have hk := (kq_paI e33).trans hk
      obtain ⟨x35, e35, h⟩ := bd h
      have hk := (t_X11_scan e35).trans hk
      have h := Option.some.inj h
      subst h
      exact hk
  · obtain ⟨x10, e10, h⟩ := bd h
    have hk := (t_X11_fails e10).trans hk
    obtain ⟨_, h⟩ := ite_p h
    have h := Option.some.inj h
    subst h
    exact hk
theorem t_X11_readByPerson_J241 {a0 : Nat} {l2 : Int32} {l5 : Int32} {μ : Mm} {x : (Int32 × Mm)} (h : f_X11_readByPerson_J241 a0 l2 l5 μ = some x) : tl ((fun (q : (Int32 × Mm)) => q.2) x) = tl μ := by
  have hk : tl μ = tl μ := rfl
  rcases ite_e h with ⟨_, h⟩ | ⟨_, h⟩
  · obtain ⟨_, h⟩ := ite_p h
    have h := Option.some.inj h
    subst h
    exact hk
  · obtain ⟨x247, e247, h⟩ := bd h
    obtain ⟨x255, e255, h⟩ := bd h
    obtain ⟨μ258, e258, h⟩ := bd h
    have hk := (kq_paI e258).trans hk
    obtain ⟨_, h⟩ := ite_p h
    have h := Option.some.inj h
    subst h
    exact hk
theorem t_X11_readByPerson_J239 {a0 : Nat} {l2 : Int32} {k0 : Int32} {μ : Mm} {x : (Int32 × Mm)} (h : f_X11_readByPerson_J239 a0 l2 k0 μ = some x) : tl ((fun (q : (Int32 × Mm)) => q.2) x) = tl μ := by
  have hk : tl μ = tl μ := rfl
  exact (t_X11_readByPerson_J241 h).trans hk
theorem t_X11_readByPerson_J238 {a0 : Nat} {l2 : Int32} {μ : Mm} {x : (Int32 × Mm)} (h : f_X11_readByPerson_J238 a0 l2 μ = some x) : tl ((fun (q : (Int32 × Mm)) => q.2) x) = tl μ := by
  have hk : tl μ = tl μ := rfl
  exact (t_X11_readByPerson_J239 h).trans hk
theorem t_X11_readByPerson_J166 {a0 : Nat} {l2 : Int32} {k0 : Int32} {μ : Mm} {x : (Int32 × Mm)} (h : f_X11_readByPerson_J166 a0 l2 k0 μ = some x) : tl ((fun (q : (Int32 × Mm)) => q.2) x) = tl μ := by
  have hk : tl μ = tl μ := rfl
  exact (t_X11_readByPerson_J241 h).trans hk
theorem t_X11_readByPerson_J165 {a0 : Nat} {l2 : Int32} {μ : Mm} {x : (Int32 × Mm)} (h : f_X11_readByPerson_J165 a0 l2 μ = some x) : tl ((fun (q : (Int32 × Mm)) => q.2) x) = tl μ := by
  have hk : tl μ = tl μ := rfl
  exact (t_X11_readByPerson_J166 h).trans hk
theorem t_X11_readByPerson_J116 {a0 : Nat} {l2 : Int32} {k0 : Int32} {μ : Mm} {x : (Int32 × Mm)} (h : f_X11_readByPerson_J116 a0 l2 k0 μ = some x) : tl ((fun (q : (Int32 × Mm)) => q.2) x) = tl μ := by
  have hk : tl μ = tl μ := rfl
  exact (t_X11_readByPerson_J241 h).trans hk
theorem t_X11_readByPerson_J115 {a0 : Nat} {l2 : Int32} {μ : Mm} {x : (Int32 × Mm)} (h : f_X11_readByPerson_J115 a0 l2 μ = some x) : tl ((fun (q : (Int32 × Mm)) => q.2) x) = tl μ := by
  have hk : tl μ = tl μ := rfl
  exact (t_X11_readByPerson_J116 h).trans hk
theorem t_X11_readByPerson_J43 {a0 : Nat} {l1 : Int32} {l2 : Int32} {k0 : Int32} {μ : Mm} {x : (Int32 × Mm)} (h : f_X11_readByPerson_J43 a0 l1 l2 k0 μ = some x) : tl ((fun (q : (Int32 × Mm)) => q.2) x) = tl μ := by
  have hk : tl μ = tl μ := rfl
  obtain ⟨x45, e45, h⟩ := bd h
  obtain ⟨x52, e52, h⟩ := bd h
  rcases ite_e h with ⟨_, h⟩ | ⟨_, h⟩
  · obtain ⟨x63, e63, h⟩ := bd h
    have hk := (t_X11_fails e63).trans hk
    obtain ⟨_, h⟩ := ite_p h
    have h := Option.some.inj h
    subst h
    exact hk
  · obtain ⟨x68, e68, h⟩ := bd h
    have hk := (t_X11_scan e68).trans hk
    rcases ite_e h with ⟨_, h⟩ | ⟨_, h⟩
    · obtain ⟨x78, e78, h⟩ := bd h
      obtain ⟨x86, e86, h⟩ := bd h
      have hk := (t_X11_readWho e86).trans hk
      rcases ite_e h with ⟨_, h⟩ | ⟨_, h⟩
      · exact (t_X11_readByPerson_J115 h).trans hk
      · obtain ⟨x94, e94, h⟩ := bd h
        obtain ⟨x105, e105, h⟩ := bd h
        have hk := (t_X11_readInto e105).trans hk
        rcases ite_e h with ⟨_, h⟩ | ⟨_, h⟩
        · exact (t_X11_readByPerson_J115 h).trans hk
        · exact (t_X11_readByPerson_J116 h).trans hk
    · rcases ite_e h with ⟨_, h⟩ | ⟨_, h⟩
      · obtain ⟨x128, e128, h⟩ := bd h
        obtain ⟨x136, e136, h⟩ := bd h
        have hk := (t_X11_readWho e136).trans hk
        rcases ite_e h with ⟨_, h⟩ | ⟨_, h⟩
        · exact (t_X11_readByPerson_J165 h).trans hk
        · obtain ⟨x144, e144, h⟩ := bd h
          obtain ⟨x155, e155, h⟩ := bd h
          have hk := (t_X11_readInto e155).trans hk
          rcases ite_e h with ⟨_, h⟩ | ⟨_, h⟩
          · exact (t_X11_readByPerson_J165 h).trans hk
          · exact (t_X11_readByPerson_J166 h).trans hk
      · obtain ⟨x173, e173, h⟩ := bd h
        obtain ⟨x181, e181, h⟩ := bd h
        have hk := (t_X11_readWho e181).trans hk
        rcases ite_e h with ⟨_, h⟩ | ⟨_, h⟩
        · exact (t_X11_readByPerson_J238 h).trans hk
        · obtain ⟨x189, e189, h⟩ := bd h
          obtain ⟨x200, e200, h⟩ := bd h
          have hk := (t_X11_readInto e200).trans hk
          rcases ite_e h with ⟨_, h⟩ | ⟨_, h⟩
          · exact (t_X11_readByPerson_J238 h).trans hk
          · obtain ⟨x208, e208, h⟩ := bd h
            obtain ⟨x217, e217, h⟩ := bd h
            obtain ⟨x225, e225, h⟩ := bd h
            obtain ⟨x228, e228, h⟩ := bd h
            have hk := (t_X11_readInto e228).trans hk
            rcases ite_e h with ⟨_, h⟩ | ⟨_, h⟩
            · exact (t_X11_readByPerson_J238 h).trans hk
            · exact (t_X11_readByPerson_J239 h).trans hk
theorem t_X11_readByPerson_J20 {a0 : Nat} {l1 : Int32} {k0 : Int32} {μ : Mm} {x : (Int32 × Mm)} (h : f_X11_readByPerson_J20 a0 l1 k0 μ = some x) : tl ((fun (q : (Int32 × Mm)) => q.2) x) = tl μ := by
  have hk : tl μ = tl μ := rfl
  rcases ite_e h with ⟨_, h⟩ | ⟨_, h⟩
  · exact (t_X11_readByPerson_J43 h).trans hk
  · rcases ite_e h with ⟨_, h⟩ | ⟨_, h⟩
    · exact (t_X11_readByPerson_J43 h).trans hk
    · exact (t_X11_readByPerson_J43 h).trans hk
theorem t_X11_readByPerson {a0 : Nat} {l1 : Int32} {μ : Mm} {x : (Int32 × Mm)} (h : f_X11_readByPerson a0 l1 μ = some x) : tl ((fun (q : (Int32 × Mm)) => q.2) x) = tl μ := by
  have hk : tl μ = tl μ := rfl
  obtain ⟨_, h⟩ := ite_p h
  rcases ite_e h with ⟨_, h⟩ | ⟨_, h⟩
  · exact (t_X11_readByPerson_J20 h).trans hk
  · rcases ite_e h with ⟨_, h⟩ | ⟨_, h⟩
    · exact (t_X11_readByPerson_J20 h).trans hk
    · exact (t_X11_readByPerson_J20 h).trans hk
theorem t_X11_readDreams_J59 {a0 : Nat} {μ : Mm} {x : (Int32 × Mm)} (h : f_X11_readDreams_J59 a0 μ = some x) : tl ((fun (q : (Int32 × Mm)) => q.2) x) = tl μ := by
  have hk : tl μ = tl μ := rfl
  obtain ⟨x61, e61, h⟩ := bd h
  have hk := (t_X11_fails e61).trans hk
  obtain ⟨_, h⟩ := ite_p h
  have h := Option.some.inj h
  subst h
  exact hk
theorem t_X11_readDreams_J106 {a0 : Nat} {μ : Mm} {x : (Int32 × Mm)} (h : f_X11_readDreams_J106 a0 μ = some x) : tl ((fun (q : (Int32 × Mm)) => q.2) x) = tl μ := by
  have hk : tl μ = tl μ := rfl
  obtain ⟨x108, e108, h⟩ := bd h
  have hk := (t_X11_fails e108).trans hk
  obtain ⟨_, h⟩ := ite_p h
  have h := Option.some.inj h
  subst h
  exact hk
theorem t_X11_readDreams_J125 {a0 : Nat} {μ : Mm} {x : (Int32 × Mm)} (h : f_X11_readDreams_J125 a0 μ = some x) : tl ((fun (q : (Int32 × Mm)) => q.2) x) = tl μ := by
  have hk : tl μ = tl μ := rfl
  obtain ⟨x127, e127, h⟩ := bd h
  have hk := (t_X11_fails e127).trans hk
  obtain ⟨_, h⟩ := ite_p h
  have h := Option.some.inj h
  subst h
  exact hk
theorem t_X11_readDreams_J112 {a0 : Nat} {l1 : Int32} {l2 : Int32} {μ : Mm} {x : (Int32 × Mm)} (h : f_X11_readDreams_J112 a0 l1 l2 μ = some x) : tl ((fun (q : (Int32 × Mm)) => q.2) x) = tl μ := by
  have hk : tl μ = tl μ := rfl
  rcases ite_e h with ⟨_, h⟩ | ⟨_, h⟩
  · exact (t_X11_readDreams_J125 h).trans hk
  · obtain ⟨x119, e119, h⟩ := bd h
    rcases ite_e h with ⟨_, h⟩ | ⟨_, h⟩
    · obtain ⟨x132, e132, h⟩ := bd h
      obtain ⟨μ142, e142, h⟩ := bd h
      have hk := (kq_paI e142).trans hk
      obtain ⟨x144, e144, h⟩ := bd h
      have hk := (t_X11_scan e144).trans hk
      have h := Option.some.inj h
      subst h
      exact hk
    · exact (t_X11_readDreams_J125 h).trans hk
theorem t_X11_readDreams_J46 {a0 : Nat} {l1 : Int32} {μ : Mm} {x : (Int32 × Mm)} (h : f_X11_readDreams_J46 a0 l1 μ = some x) : tl ((fun (q : (Int32 × Mm)) => q.2) x) = tl μ := by
  have hk : tl μ = tl μ := rfl
  rcases ite_e h with ⟨_, h⟩ | ⟨_, h⟩
  · exact (t_X11_readDreams_J59 h).trans hk
  · obtain ⟨x53, e53, h⟩ := bd h
    rcases ite_e h with ⟨_, h⟩ | ⟨_, h⟩
    · obtain ⟨x66, e66, h⟩ := bd h
      have hk := (t_X11_scan e66).trans hk
      obtain ⟨x70, e70, h⟩ := bd h
      rcases ite_e h with ⟨_, h⟩ | ⟨_, h⟩
      · obtain ⟨x84, e84, h⟩ := bd h
        rcases ite_e h with ⟨_, h⟩ | ⟨_, h⟩
        · exact (t_X11_readDreams_J106 h).trans hk
        · rcases ite_e h with ⟨_, h⟩ | ⟨_, h⟩
          · exact (t_X11_readDreams_J112 h).trans hk
          · obtain ⟨x100, e100, h⟩ := bd h
            rcases ite_e h with ⟨_, h⟩ | ⟨_, h⟩
            · exact (t_X11_readDreams_J112 h).trans hk
            · exact (t_X11_readDreams_J106 h).trans hk
      · obtain ⟨x79, e79, h⟩ := bd h
        have hk := (t_X11_fails e79).trans hk
        obtain ⟨_, h⟩ := ite_p h
        have h := Option.some.inj h
        subst h
        exact hk
    · exact (t_X11_readDreams_J59 h).trans hk
theorem t_X11_readDreams {a0 : Nat} {μ : Mm} {x : (Int32 × Mm)} (h : f_X11_readDreams a0 μ = some x) : tl ((fun (q : (Int32 × Mm)) => q.2) x) = tl μ := by
  have hk : tl μ = tl μ := rfl
  obtain ⟨_, h⟩ := ite_p h
  obtain ⟨x1, e1, h⟩ := bd h
  have hk := (t_X11_scan e1).trans hk
  obtain ⟨x5, e5, h⟩ := bd h
  rcases ite_e h with ⟨_, h⟩ | ⟨_, h⟩
  · obtain ⟨x19, e19, h⟩ := bd h
    rcases ite_e h with ⟨_, h⟩ | ⟨_, h⟩
    · exact (t_X11_readDreams_J46 h).trans hk
    · obtain ⟨x29, e29, h⟩ := bd h
      obtain ⟨x36, e36, h⟩ := bd h
      rcases ite_e h with ⟨_, h⟩ | ⟨_, h⟩
      · exact (t_X11_readDreams_J46 h).trans hk
      · obtain ⟨x42, e42, h⟩ := bd h
        have hk := (t_X11_fails e42).trans hk
        obtain ⟨_, h⟩ := ite_p h
        have h := Option.some.inj h
        subst h
        exact hk
  · obtain ⟨x14, e14, h⟩ := bd h
    have hk := (t_X11_fails e14).trans hk
    obtain ⟨_, h⟩ := ite_p h
    have h := Option.some.inj h
    subst h
    exact hk
theorem t_X11_readPerson_J100 {a0 : Nat} {μ : Mm} {x : (Int32 × Mm)} (h : f_X11_readPerson_J100 a0 μ = some x) : tl ((fun (q : (Int32 × Mm)) => q.2) x) = tl μ := by
  have hk : tl μ = tl μ := rfl
  obtain ⟨x101, e101, h⟩ := bd h
  obtain ⟨x107, e107, h⟩ := bd h
  obtain ⟨μ110, e110, h⟩ := bd h
  have hk := (kq_paI e110).trans hk
  have h := Option.some.inj h
  subst h
  exact hk
theorem t_X11_readPerson {a0 : Nat} {μ : Mm} {x : (Int32 × Mm)} (h : f_X11_readPerson a0 μ = some x) : tl ((fun (q : (Int32 × Mm)) => q.2) x) = tl μ := by
  have hk : tl μ = tl μ := rfl
  obtain ⟨_, h⟩ := ite_p h
  obtain ⟨x1, e1, h⟩ := bd h
  obtain ⟨x6, e6, h⟩ := bd h
  rcases ite_e h with ⟨_, h⟩ | ⟨_, h⟩
  · obtain ⟨x16, e16, h⟩ := bd h
    have hk := (t_X11_fails e16).trans hk
    obtain ⟨_, h⟩ := ite_p h
    have h := Option.some.inj h
    subst h
    exact hk
  · obtain ⟨x21, e21, h⟩ := bd h
    have hk := (t_X11_scan e21).trans hk
    obtain ⟨x25, e25, h⟩ := bd h
    rcases ite_e h with ⟨_, h⟩ | ⟨_, h⟩
    · obtain ⟨x39, e39, h⟩ := bd h
      rcases ite_e h with ⟨_, h⟩ | ⟨_, h⟩
      · obtain ⟨x53, e53, h⟩ := bd h
        obtain ⟨x58, e58, h⟩ := bd h
        obtain ⟨μ61, e61, h⟩ := bd h
        have hk := (kq_paL e61).trans hk
        obtain ⟨x63, e63, h⟩ := bd h
        have hk := (t_X11_scan e63).trans hk
        obtain ⟨x67, e67, h⟩ := bd h
        rcases ite_e h with ⟨_, h⟩ | ⟨_, h⟩
        · obtain ⟨x75, e75, h⟩ := bd h
          rcases ite_e h with ⟨_, h⟩ | ⟨_, h⟩
          · obtain ⟨x84, e84, h⟩ := bd h
            obtain ⟨x90, e90, h⟩ := bd h
            obtain ⟨μ95, e95, h⟩ := bd h
            have hk := (kq_paI e95).trans hk
            obtain ⟨x97, e97, h⟩ := bd h
            have hk := (t_X11_scan e97).trans hk
            exact (t_X11_readPerson_J100 h).trans hk
          · exact (t_X11_readPerson_J100 h).trans hk
        · exact (t_X11_readPerson_J100 h).trans hk
      · obtain ⟨x48, e48, h⟩ := bd h
        have hk := (t_X11_fails e48).trans hk
        obtain ⟨_, h⟩ := ite_p h
        have h := Option.some.inj h
        subst h
        exact hk
    · obtain ⟨x34, e34, h⟩ := bd h
      have hk := (t_X11_fails e34).trans hk
      obtain ⟨_, h⟩ := ite_p h
      have h := Option.some.inj h
      subst h
      exact hk
theorem t_X11_readTalk {a0 : Nat} {μ : Mm} {x : (Int32 × Mm)} (h : f_X11_readTalk a0 μ = some x) : tl ((fun (q : (Int32 × Mm)) => q.2) x) = tl μ := by
  have hk : tl μ = tl μ := rfl
  obtain ⟨_, h⟩ := ite_p h
  obtain ⟨x1, e1, h⟩ := bd h
  obtain ⟨x6, e6, h⟩ := bd h
  rcases ite_e h with ⟨_, h⟩ | ⟨_, h⟩
  · obtain ⟨x16, e16, h⟩ := bd h
    have hk := (t_X11_fails e16).trans hk
    obtain ⟨_, h⟩ := ite_p h
    have h := Option.some.inj h
    subst h
    exact hk
  · obtain ⟨x21, e21, h⟩ := bd h
    have hk := (t_X11_scan e21).trans hk
    obtain ⟨x26, e26, h⟩ := bd h
    obtain ⟨x33, e33, h⟩ := bd h
    have hk := (t_X11_readWho e33).trans hk
    rcases ite_e h with ⟨_, h⟩ | ⟨_, h⟩
    · have h := Option.some.inj h
      subst h
      exact hk
    · obtain ⟨x42, e42, h⟩ := bd h
      rcases ite_e h with ⟨_, h⟩ | ⟨_, h⟩
      · obtain ⟨x56, e56, h⟩ := bd h
        obtain ⟨x60, e60, h⟩ := bd h
        obtain ⟨x67, e67, h⟩ := bd h
        rcases ite_e h with ⟨_, h⟩ | ⟨_, h⟩
        · obtain ⟨x73, e73, h⟩ := bd h
          have hk := (t_X11_fails e73).trans hk
          obtain ⟨_, h⟩ := ite_p h
          have h := Option.some.inj h
          subst h
          exact hk
        · obtain ⟨x79, e79, h⟩ := bd h
          obtain ⟨x86, e86, h⟩ := bd h
          have hk := (t_X11_readWho e86).trans hk
          rcases ite_e h with ⟨_, h⟩ | ⟨_, h⟩
          · have h := Option.some.inj h
            subst h
            exact hk
          · obtain ⟨x94, e94, h⟩ := bd h
            obtain ⟨x104, e104, h⟩ := bd h
            have hk := (t_X11_readInto e104).trans hk
            rcases ite_e h with ⟨_, h⟩ | ⟨_, h⟩
            · have h := Option.some.inj h
              subst h
              exact hk
            · obtain ⟨x113, e113, h⟩ := bd h
              obtain ⟨x119, e119, h⟩ := bd h
              obtain ⟨μ122, e122, h⟩ := bd h
              have hk := (kq_paI e122).trans hk
              have h := Option.some.inj h
              subst h
              exact hk
      · obtain ⟨x51, e51, h⟩ := bd h
        have hk := (t_X11_fails e51).trans hk
        obtain ⟨_, h⟩ := ite_p h
        have h := Option.some.inj h
        subst h
        exact hk
theorem t_X11_readTrade_J49 {a0 : Nat} {l1 : Int32} {μ : Mm} {x : (Int32 × Mm)} (h : f_X11_readTrade_J49 a0 l1 μ = some x) : tl ((fun (q : (Int32 × Mm)) => q.2) x) = tl μ := by
  have hk : tl μ = tl μ := rfl
  rcases ite_e h with ⟨_, h⟩ | ⟨_, h⟩
  · obtain ⟨x56, e56, h⟩ := bd h
    have hk := (t_X11_fails e56).trans hk
    obtain ⟨_, h⟩ := ite_p h
    have h := Option.some.inj h
    subst h
    exact hk
  · obtain ⟨x61, e61, h⟩ := bd h
    obtain ⟨x67, e67, h⟩ := bd h
    obtain ⟨μ72, e72, h⟩ := bd h
    have hk := (kq_paI e72).trans hk
    obtain ⟨x74, e74, h⟩ := bd h
    have hk := (t_X11_scan e74).trans hk
    obtain ⟨x79, e79, h⟩ := bd h
    obtain ⟨x89, e89, h⟩ := bd h
    have hk := (t_X11_readInto e89).trans hk
    obtain ⟨_, h⟩ := ite_p h
    have h := Option.some.inj h
    subst h
    exact hk
theorem t_X11_readTrade {a0 : Nat} {μ : Mm} {x : (Int32 × Mm)} (h : f_X11_readTrade a0 μ = some x) : tl ((fun (q : (Int32 × Mm)) => q.2) x) = tl μ := by
  have hk : tl μ = tl μ := rfl
  obtain ⟨_, h⟩ := ite_p h
  obtain ⟨x1, e1, h⟩ := bd h
  have hk := (t_X11_scan e1).trans hk
  obtain ⟨x5, e5, h⟩ := bd h
  rcases ite_e h with ⟨_, h⟩ | ⟨_, h⟩
  · obtain ⟨x19, e19, h⟩ := bd h
    rcases ite_e h with ⟨_, h⟩ | ⟨_, h⟩
    · exact (t_X11_readTrade_J49 h).trans hk
    · obtain ⟨x29, e29, h⟩ := bd h
      obtain ⟨x34, e34, h⟩ := bd h
      rcases ite_e h with ⟨_, h⟩ | ⟨_, h⟩
      · obtain ⟨x45, e45, h⟩ := bd h
        have hk := (t_X11_fails e45).trans hk
        obtain ⟨_, h⟩ := ite_p h
        have h := Option.some.inj h
        subst h
        exact hk
      · exact (t_X11_readTrade_J49 h).trans hk
  · obtain ⟨x14, e14, h⟩ := bd h
    have hk := (t_X11_fails e14).trans hk
    obtain ⟨_, h⟩ := ite_p h
    have h := Option.some.inj h
    subst h
    exact hk
theorem t_X11_readWish_J96 {a0 : Nat} {k0 : Nat} {k1 : Int32} {k2 : Int32} {μ : Mm} {x : (Int32 × Mm)} (h : f_X11_readWish_J96 a0 k0 k1 k2 μ = some x) : tl ((fun (q : (Int32 × Mm)) => q.2) x) = tl μ := by
  have hk : tl μ = tl μ := rfl
  obtain ⟨μ96, e96, h⟩ := bd h
  have hk := (kq_paI e96).trans hk
  obtain ⟨x98, e98, h⟩ := bd h
  obtain ⟨x104, e104, h⟩ := bd h
  obtain ⟨μ107, e107, h⟩ := bd h
  have hk := (kq_paI e107).trans hk
  have h := Option.some.inj h
  subst h
  exact hk
theorem t_X11_readWish {a0 : Nat} {l1 : Int32} {μ : Mm} {x : (Int32 × Mm)} (h : f_X11_readWish a0 l1 μ = some x) : tl ((fun (q : (Int32 × Mm)) => q.2) x) = tl μ := by
  have hk : tl μ = tl μ := rfl
  obtain ⟨_, h⟩ := ite_p h
  obtain ⟨x1, e1, h⟩ := bd h
  obtain ⟨x6, e6, h⟩ := bd h
  rcases ite_e h with ⟨_, h⟩ | ⟨_, h⟩
  · obtain ⟨x16, e16, h⟩ := bd h
    have hk := (t_X11_fails e16).trans hk
    obtain ⟨_, h⟩ := ite_p h
    have h := Option.some.inj h
    subst h
    exact hk
  · obtain ⟨x21, e21, h⟩ := bd h
    have hk := (t_X11_scan e21).trans hk
    obtain ⟨x26, e26, h⟩ := bd h
    obtain ⟨x33, e33, h⟩ := bd h
    have hk := (t_X11_readWho e33).trans hk
    rcases ite_e h with ⟨_, h⟩ | ⟨_, h⟩
    · have h := Option.some.inj h
      subst h
      exact hk
    · obtain ⟨x41, e41, h⟩ := bd h
      obtain ⟨x51, e51, h⟩ := bd h
      have hk := (t_X11_readInto e51).trans hk
      rcases ite_e h with ⟨_, h⟩ | ⟨_, h⟩
      · have h := Option.some.inj h
        subst h
        exact hk
      · obtain ⟨x59, e59, h⟩ := bd h
        obtain ⟨x69, e69, h⟩ := bd h
        have hk := (t_X11_readInto e69).trans hk
        rcases ite_e h with ⟨_, h⟩ | ⟨_, h⟩
        · have h := Option.some.inj h
          subst h
          exact hk
        · obtain ⟨x78, e78, h⟩ := bd h
          rcases ite_e h with ⟨_, h⟩ | ⟨_, h⟩
          · exact (t_X11_readWish_J96 h).trans hk
          · exact (t_X11_readWish_J96 h).trans hk
theorem t_X11_readClause_J230 {a0 : Nat} {k0 : Nat} {k1 : Int32} {k2 : Int32} {μ : Mm} {x : (Int32 × Mm)} (h : f_X11_readClause_J230 a0 k0 k1 k2 μ = some x) : tl ((fun (q : (Int32 × Mm)) => q.2) x) = tl μ := by
  have hk : tl μ = tl μ := rfl
  obtain ⟨x232, e232, h⟩ := bd h
  obtain ⟨μ235, e235, h⟩ := bd h
  have hk := (kq_paI e235).trans hk
  have h := Option.some.inj h
  subst h
  exact hk
theorem t_X11_readClause_J202 {a0 : Nat} {l1 : Int32} {μ : Mm} {x : (Int32 × Mm)} (h : f_X11_readClause_J202 a0 l1 μ = some x) : tl ((fun (q : (Int32 × Mm)) => q.2) x) = tl μ := by
  have hk : tl μ = tl μ := rfl
  obtain ⟨x203, e203, h⟩ := bd h
  rcases ite_e h with ⟨_, h⟩ | ⟨_, h⟩
  · exact (t_X11_readClause_J230 h).trans hk
  · rcases ite_e h with ⟨_, h⟩ | ⟨_, h⟩
    · exact (t_X11_readClause_J230 h).trans hk
    · exact (t_X11_readClause_J230 h).trans hk
theorem t_X11_readClause_J136 {a0 : Nat} {l1 : Int32} {μ : Mm} {x : (Int32 × Mm)} (h : f_X11_readClause_J136 a0 l1 μ = some x) : tl ((fun (q : (Int32 × Mm)) => q.2) x) = tl μ := by
  have hk : tl μ = tl μ := rfl
  obtain ⟨x137, e137, h⟩ := bd h
  rcases ite_e h with ⟨_, h⟩ | ⟨_, h⟩
  · obtain ⟨x150, e150, h⟩ := bd h
    have hk := (t_X11_fails e150).trans hk
    obtain ⟨_, h⟩ := ite_p h
    have h := Option.some.inj h
    subst h
    exact hk
  · obtain ⟨x156, e156, h⟩ := bd h
    obtain ⟨μ163, e163, h⟩ := bd h
    have hk := (kq_pfI e163).trans hk
    obtain ⟨x167, e167, h⟩ := bd h
    have hk := (t_X11_scan e167).trans hk
    rcases ite_e h with ⟨_, h⟩ | ⟨_, h⟩
    · obtain ⟨x180, e180, h⟩ := bd h
      have hk := (t_X11_readNumber e180).trans hk
      rcases ite_e h with ⟨_, h⟩ | ⟨_, h⟩
      · have h := Option.some.inj h
        subst h
        exact hk
      · exact (t_X11_readClause_J202 h).trans hk
    · obtain ⟨x194, e194, h⟩ := bd h
      have hk := (t_X11_readNumber e194).trans hk
      rcases ite_e h with ⟨_, h⟩ | ⟨_, h⟩
      · have h := Option.some.inj h
        subst h
        exact hk
      · exact (t_X11_readClause_J202 h).trans hk
theorem t_X11_readClause_J16 {a0 : Nat} {k0 : Int32} {μ : Mm} {x : (Int32 × Mm)} (h : f_X11_readClause_J16 a0 k0 μ = some x) : tl ((fun (q : (Int32 × Mm)) => q.2) x) = tl μ := by
  have hk : tl μ = tl μ := rfl
  rcases ite_e h with ⟨_, h⟩ | ⟨_, h⟩
  · obtain ⟨x81, e81, h⟩ := bd h
    have hk := (t_X11_readPerson e81).trans hk
    obtain ⟨_, h⟩ := ite_p h
    have h := Option.some.inj h
    subst h
    exact hk
  rcases ite_e h with ⟨_, h⟩ | ⟨_, h⟩
  · obtain ⟨x86, e86, h⟩ := bd h
    have hk := (t_X11_readDreams e86).trans hk
    obtain ⟨_, h⟩ := ite_p h
    have h := Option.some.inj h
    subst h
    exact hk
  rcases ite_e h with ⟨_, h⟩ | ⟨_, h⟩
  · obtain ⟨x97, e97, h⟩ := bd h
    have hk := (t_X11_readByPerson e97).trans hk
    obtain ⟨_, h⟩ := ite_p h
    have h := Option.some.inj h
    subst h
    exact hk
  rcases ite_e h with ⟨_, h⟩ | ⟨_, h⟩
  · obtain ⟨x91, e91, h⟩ := bd h
    have hk := (t_X11_readTalk e91).trans hk
    obtain ⟨_, h⟩ := ite_p h
    have h := Option.some.inj h
    subst h
    exact hk
  rcases ite_e h with ⟨_, h⟩ | ⟨_, h⟩
  · obtain ⟨x97, e97, h⟩ := bd h
    have hk := (t_X11_readByPerson e97).trans hk
    obtain ⟨_, h⟩ := ite_p h
    have h := Option.some.inj h
    subst h
    exact hk
  rcases ite_e h with ⟨_, h⟩ | ⟨_, h⟩
  · obtain ⟨x97, e97, h⟩ := bd h
    have hk := (t_X11_readByPerson e97).trans hk
    obtain ⟨_, h⟩ := ite_p h
    have h := Option.some.inj h
    subst h
    exact hk
  rcases ite_e h with ⟨_, h⟩ | ⟨_, h⟩
  · rcases ite_e h with ⟨_, h⟩ | ⟨_, h⟩
    · exact (t_X11_readClause_J136 h).trans hk
    · rcases ite_e h with ⟨_, h⟩ | ⟨_, h⟩
      · exact (t_X11_readClause_J136 h).trans hk
      · rcases ite_e h with ⟨_, h⟩ | ⟨_, h⟩
        · exact (t_X11_readClause_J136 h).trans hk
        · obtain ⟨x132, e132, h⟩ := bd h
          have hk := (t_X11_fails e132).trans hk
          obtain ⟨_, h⟩ := ite_p h
          have h := Option.some.inj h
          subst h
          exact hk
  rcases ite_e h with ⟨_, h⟩ | ⟨_, h⟩
  · rcases ite_e h with ⟨_, h⟩ | ⟨_, h⟩
    · exact (t_X11_readClause_J136 h).trans hk
    · rcases ite_e h with ⟨_, h⟩ | ⟨_, h⟩
      · exact (t_X11_readClause_J136 h).trans hk
      · rcases ite_e h with ⟨_, h⟩ | ⟨_, h⟩
        · exact (t_X11_readClause_J136 h).trans hk
        · obtain ⟨x132, e132, h⟩ := bd h
          have hk := (t_X11_fails e132).trans hk
          obtain ⟨_, h⟩ := ite_p h
          have h := Option.some.inj h
          subst h
          exact hk
  rcases ite_e h with ⟨_, h⟩ | ⟨_, h⟩
  · rcases ite_e h with ⟨_, h⟩ | ⟨_, h⟩
    · exact (t_X11_readClause_J136 h).trans hk
    · rcases ite_e h with ⟨_, h⟩ | ⟨_, h⟩
      · exact (t_X11_readClause_J136 h).trans hk
      · rcases ite_e h with ⟨_, h⟩ | ⟨_, h⟩
        · exact (t_X11_readClause_J136 h).trans hk
        · obtain ⟨x132, e132, h⟩ := bd h
          have hk := (t_X11_fails e132).trans hk
          obtain ⟨_, h⟩ := ite_p h
          have h := Option.some.inj h
          subst h
          exact hk
  rcases ite_e h with ⟨_, h⟩ | ⟨_, h⟩
  · obtain ⟨x103, e103, h⟩ := bd h
    have hk := (t_X11_readWish e103).trans hk
    obtain ⟨_, h⟩ := ite_p h
    have h := Option.some.inj h
    subst h
    exact hk
  rcases ite_e h with ⟨_, h⟩ | ⟨_, h⟩
  · obtain ⟨x103, e103, h⟩ := bd h
    have hk := (t_X11_readWish e103).trans hk
    obtain ⟨_, h⟩ := ite_p h
    have h := Option.some.inj h
    subst h
    exact hk
  rcases ite_e h with ⟨_, h⟩ | ⟨_, h⟩
  · obtain ⟨x108, e108, h⟩ := bd h
    have hk := (t_X11_readTrade e108).trans hk
    obtain ⟨_, h⟩ := ite_p h
    have h := Option.some.inj h
    subst h
    exact hk
  rcases ite_e h with ⟨_, h⟩ | ⟨_, h⟩
  · exact (t_X11_readClause_J136 h).trans hk
  · rcases ite_e h with ⟨_, h⟩ | ⟨_, h⟩
    · exact (t_X11_readClause_J136 h).trans hk
    · rcases ite_e h with ⟨_, h⟩ | ⟨_, h⟩
      · exact (t_X11_readClause_J136 h).trans hk
      · obtain ⟨x132, e132, h⟩ := bd h
        have hk := (t_X11_fails e132).trans hk
        obtain ⟨_, h⟩ := ite_p h
        have h := Option.some.inj h
        subst h
        exact hk
theorem t_X11_readClause {a0 : Nat} {μ : Mm} {x : (Int32 × Mm)} (h : f_X11_readClause a0 μ = some x) : tl ((fun (q : (Int32 × Mm)) => q.2) x) = tl μ := by
  have hk : tl μ = tl μ := rfl
  obtain ⟨_, h⟩ := ite_p h
  obtain ⟨x1, e1, h⟩ := bd h
  rcases ite_e h with ⟨_, h⟩ | ⟨_, h⟩
  · obtain ⟨x9, e9, h⟩ := bd h
    exact (t_X11_readClause_J16 h).trans hk
  · exact (t_X11_readClause_J16 h).trans hk
theorem t_X11_right {a0 : Nat} {l1 : Int32} {l2 : Int32} {l3 : Int32} {μ : Mm} {x : (Int32 × Mm)} (h : f_X11_right a0 l1 l2 l3 μ = some x) : tl ((fun (q : (Int32 × Mm)) => q.2) x) = tl μ := by
  have hk : tl μ = tl μ := rfl
  obtain ⟨_, h⟩ := ite_p h
  obtain ⟨x2, e2, h⟩ := bd h
  obtain ⟨x8, e8, h⟩ := bd h
  rcases ite_e h with ⟨_, h⟩ | ⟨_, h⟩
  · have h := Option.some.inj h
    subst h
    exact hk
  · obtain ⟨x17, e17, h⟩ := bd h
    obtain ⟨x22, e22, h⟩ := bd h
    rcases ite_e h with ⟨_, h⟩ | ⟨_, h⟩
    · have h := Option.some.inj h
      subst h
      exact hk
    · obtain ⟨x31, e31, h⟩ := bd h
      rcases ite_e h with ⟨_, h⟩ | ⟨_, h⟩
      · have h := Option.some.inj h
        subst h
        exact hk
      · obtain ⟨x41, e41, h⟩ := bd h
        rcases ite_e h with ⟨_, h⟩ | ⟨_, h⟩
        · have h := Option.some.inj h
          subst h
          exact hk
        · obtain ⟨μ54, e54, h⟩ := bd h
          have hk := (kq_pfI e54).trans hk
          obtain ⟨x58, e58, h⟩ := bd h
          obtain ⟨x62, e62, h⟩ := bd h
          obtain ⟨μ66, e66, h⟩ := bd h
          have hk := (kq_paI e66).trans hk
          obtain ⟨x68, e68, h⟩ := bd h
          obtain ⟨x72, e72, h⟩ := bd h
          obtain ⟨μ76, e76, h⟩ := bd h
          have hk := (kq_paI e76).trans hk
          obtain ⟨x78, e78, h⟩ := bd h
          obtain ⟨x82, e82, h⟩ := bd h
          obtain ⟨μ86, e86, h⟩ := bd h
          have hk := (kq_paI e86).trans hk
          obtain ⟨x89, e89, h⟩ := bd h
          obtain ⟨μ94, e94, h⟩ := bd h
          have hk := (kq_pfI e94).trans hk
          obtain ⟨b103, w103, h⟩ := bd h
          have h := Option.some.inj h
          subst h
          exact hk
theorem t_X11_rings_J98 {a0 : Nat} {l1 : Int32} {μ : Mm} {x : (Int64 × Mm)} (h : f_X11_rings_J98 a0 l1 μ = some x) : tl ((fun (q : (Int64 × Mm)) => q.2) x) = tl μ := by
  have hk : tl μ = tl μ := rfl
  obtain ⟨x99, e99, h⟩ := bd h
  obtain ⟨b106, w106, h⟩ := bd h
  have h := Option.some.inj h
  subst h
  exact hk
theorem t_X11_rings_L27 {a0 : Nat} {s27 : Int32 × Mm} {x : ((Int32 × Mm) ⊕ ((Mm) ⊕ (Int32 × Mm)))} (h : f_X11_rings_L27 a0 s27 = some x) : tl (sm (fun (q : Int32 × Mm) => q.2) (sm (fun (q : Mm) => q) (fun (q : Int32 × Mm) => q.2)) x) = tl ((fun (q : Int32 × Mm) => q.2) s27) := by
  have hk : tl (s27.2) = tl (s27.2) := rfl
  obtain ⟨x28, e28, h⟩ := bd h
  rcases ite_e h with ⟨_, h⟩ | ⟨_, h⟩
  · have h := Option.some.inj h
    subst h
    exact hk
  · obtain ⟨x36, e36, h⟩ := bd h
    rcases ite_e h with ⟨_, h⟩ | ⟨_, h⟩
    · obtain ⟨x44, e44, h⟩ := bd h
      obtain ⟨x50, e50, h⟩ := bd h
      rcases ite_e h with ⟨_, h⟩ | ⟨_, h⟩
      · have h := Option.some.inj h
        subst h
        exact hk
      · obtain ⟨x58, e58, h⟩ := bd h
        rcases ite_e h with ⟨_, h⟩ | ⟨_, h⟩
        · obtain ⟨x72, e72, h⟩ := bd h
          obtain ⟨x76, e76, h⟩ := bd h
          obtain ⟨x80, e80, h⟩ := bd h
          obtain ⟨μ83, e83, h⟩ := bd h
          have hk := (kq_paI e83).trans hk
          obtain ⟨x86, e86, h⟩ := bd h
          obtain ⟨v90, e90, h⟩ := bd h
          obtain ⟨x92, e92, h⟩ := bd h
          have hk := (t_X11_scan e92).trans hk
          have h := Option.some.inj h
          subst h
          exact hk
        · have h := Option.some.inj h
          subst h
          exact hk
    · have h := Option.some.inj h
      subst h
      exact hk
theorem t_X11_rings_W27 {a0 : Nat} {s27 : Int32 × Mm} {b : (Mm) ⊕ (Int32 × Mm)} (h : whl (f_X11_rings_L27 a0) s27 = some b) : tl ((sm (fun (q : Mm) => q) (fun (q : Int32 × Mm) => q.2)) b) = tl ((fun (q : Int32 × Mm) => q.2) s27) :=
  whl_tl (g := (fun (q : Int32 × Mm) => q.2)) (gb := (sm (fun (q : Mm) => q) (fun (q : Int32 × Mm) => q.2))) (fun s x hx => t_X11_rings_L27 hx) h
theorem t_X11_rings_J25 {a0 : Nat} {μ : Mm} {x : (Int64 × Mm)} (h : f_X11_rings_J25 a0 μ = some x) : tl ((fun (q : (Int64 × Mm)) => q.2) x) = tl μ := by
  have hk : tl μ = tl μ := rfl
  obtain ⟨b27, w27, h⟩ := bd h
  have hk := (t_X11_rings_W27 w27).trans hk
  rcases b27 with b27 | b27
  · have h := Option.some.inj h
    subst h
    exact hk
  · exact (t_X11_rings_J98 h).trans hk
theorem t_X11_rings_L6 {a0 : Nat} {s6 : Int32 × Mm} {x : ((Int32 × Mm) ⊕ (Mm))} (h : f_X11_rings_L6 a0 s6 = some x) : tl (sm (fun (q : Int32 × Mm) => q.2) (fun (q : Mm) => q) x) = tl ((fun (q : Int32 × Mm) => q.2) s6) := by
  have hk : tl (s6.2) = tl (s6.2) := rfl
  rcases ite_e h with ⟨_, h⟩ | ⟨_, h⟩
  · have h := Option.some.inj h
    subst h
    exact hk
  · obtain ⟨x13, e13, h⟩ := bd h
    obtain ⟨μ18, e18, h⟩ := bd h
    have hk := (kq_paI e18).trans hk
    obtain ⟨v19, e19, h⟩ := bd h
    have h := Option.some.inj h
    subst h
    exact hk
theorem t_X11_rings_W6 {a0 : Nat} {s6 : Int32 × Mm} {b : Mm} (h : whl (f_X11_rings_L6 a0) s6 = some b) : tl ((fun (q : Mm) => q) b) = tl ((fun (q : Int32 × Mm) => q.2) s6) :=
  whl_tl (g := (fun (q : Int32 × Mm) => q.2)) (gb := (fun (q : Mm) => q)) (fun s x hx => t_X11_rings_L6 hx) h
theorem t_X11_rings {a0 : Nat} {μ : Mm} {x : (Int64 × Mm)} (h : f_X11_rings a0 μ = some x) : tl ((fun (q : (Int64 × Mm)) => q.2) x) = tl μ := by
  have hk : tl μ = tl μ := rfl
  obtain ⟨_, h⟩ := ite_p h
  obtain ⟨x1, e1, h⟩ := bd h
  have hk := (t_X11_takeTape e1).trans hk
  obtain ⟨b6, w6, h⟩ := bd h
  have hk := (t_X11_rings_W6 w6).trans hk
  exact (t_X11_rings_J25 h).trans hk
theorem t_X11_said {a0 : Nat} {l1 : Int32} {l2 : Int32} {l3 : Int32} {μ : Mm} {x : (Int32 × Mm)} (h : f_X11_said a0 l1 l2 l3 μ = some x) : tl ((fun (q : (Int32 × Mm)) => q.2) x) = tl μ := by
  have hk : tl μ = tl μ := rfl
  obtain ⟨_, h⟩ := ite_p h
  obtain ⟨x4, e4, h⟩ := bd h
  rcases ite_e h with ⟨_, h⟩ | ⟨_, h⟩
  · have h := Option.some.inj h
    subst h
    exact hk
  · rcases ite_e h with ⟨_, h⟩ | ⟨_, h⟩
    · have h := Option.some.inj h
      subst h
      exact hk
    · obtain ⟨x29, e29, h⟩ := bd h
      have hk := (t_X11_saidTo e29).trans hk
      have h := Option.some.inj h
      subst h
      exact hk
theorem t_X11_skill_J213 {a0 : Nat} {l1 : Int32} {μ : Mm} {x : (Int32 × Mm)} (h : f_X11_skill_J213 a0 l1 μ = some x) : tl ((fun (q : (Int32 × Mm)) => q.2) x) = tl μ := by
  have hk : tl μ = tl μ := rfl
  obtain ⟨x214, e214, h⟩ := bd h
  obtain ⟨x218, e218, h⟩ := bd h
  have h := Option.some.inj h
  subst h
  exact hk
theorem t_X11_skill_J207 {a0 : Nat} {l1 : Int32} {l2 : Int32} {l3 : Int32} {μ : Mm} {x : ((Int32 × Mm) ⊕ (Mm))} (h : f_X11_skill_J207 a0 l1 l2 l3 μ = some x) : tl ((sm (fun (q : Int32 × Mm) => q.2) (fun (q : Mm) => q)) x) = tl μ := by
  have hk : tl μ = tl μ := rfl
  obtain ⟨v207, e207, h⟩ := bd h
  have h := Option.some.inj h
  subst h
  exact hk
theorem t_X11_skill_J196 {a0 : Nat} {l1 : Int32} {l2 : Int32} {l3 : Int32} {l4 : Int32} {k0 : Nat} {k1 : Int32} {k2 : Int32} {k3 : Int32} {μ : Mm} {x : ((Int32 × Mm) ⊕ (Mm))} (h : f_X11_skill_J196 a0 l1 l2 l3 l4 k0 k1 k2 k3 μ = some x) : tl ((sm (fun (q : Int32 × Mm) => q.2) (fun (q : Mm) => q)) x) = tl μ := by
  have hk : tl μ = tl μ := rfl
  obtain ⟨x197, e197, h⟩ := bd h
  obtain ⟨μ200, e200, h⟩ := bd h
  have hk := (kq_paI e200).trans hk
  obtain ⟨v201, e201, h⟩ := bd h
  have h := Option.some.inj h
  subst h
  exact hk
theorem t_X11_skill_J165 {a0 : Nat} {l1 : Int32} {l2 : Int32} {l3 : Int32} {l4 : Int32} {k0 : Int32} {μ : Mm} {x : ((Int32 × Mm) ⊕ (Mm))} (h : f_X11_skill_J165 a0 l1 l2 l3 l4 k0 μ = some x) : tl ((sm (fun (q : Int32 × Mm) => q.2) (fun (q : Mm) => q)) x) = tl μ := by
  have hk : tl μ = tl μ := rfl
  obtain ⟨x168, e168, h⟩ := bd h
  obtain ⟨x174, e174, h⟩ := bd h
  obtain ⟨x182, e182, h⟩ := bd h
  rcases ite_e h with ⟨_, h⟩ | ⟨_, h⟩
  · exact (t_X11_skill_J196 h).trans hk
  · exact (t_X11_skill_J196 h).trans hk
theorem t_X11_skill_J140 {a0 : Nat} {l1 : Int32} {l2 : Int32} {l3 : Int32} {l4 : Int32} {μ : Mm} {x : ((Int32 × Mm) ⊕ (Mm))} (h : f_X11_skill_J140 a0 l1 l2 l3 l4 μ = some x) : tl ((sm (fun (q : Int32 × Mm) => q.2) (fun (q : Mm) => q)) x) = tl μ := by
  have hk : tl μ = tl μ := rfl
  exact (t_X11_skill_J165 h).trans hk
theorem t_X11_skill_L97 {a0 : Nat} {l1 : Int32} {l2 : Int32} {l3 : Int32} {s97 : Int32 × Mm} {x : ((Int32 × Mm) ⊕ (Mm))} (h : f_X11_skill_L97 a0 l1 l2 l3 s97 = some x) : tl (sm (fun (q : Int32 × Mm) => q.2) (fun (q : Mm) => q) x) = tl ((fun (q : Int32 × Mm) => q.2) s97) := by
  have hk : tl (s97.2) = tl (s97.2) := rfl
  obtain ⟨x100, e100, h⟩ := bd h
  obtain ⟨x104, e104, h⟩ := bd h
  rcases ite_e h with ⟨_, h⟩ | ⟨_, h⟩
  · have h := Option.some.inj h
    subst h
    exact hk
  · obtain ⟨x109, e109, h⟩ := bd h
    obtain ⟨x113, e113, h⟩ := bd h
    obtain ⟨x116, e116, h⟩ := bd h
    obtain ⟨x119, e119, h⟩ := bd h
    rcases ite_e h with ⟨_, h⟩ | ⟨_, h⟩
    · exact (t_X11_skill_J140 h).trans hk
    · obtain ⟨x134, e134, h⟩ := bd h
      rcases ite_e h with ⟨_, h⟩ | ⟨_, h⟩
      · obtain ⟨x145, e145, h⟩ := bd h
        obtain ⟨x153, e153, h⟩ := bd h
        obtain ⟨x155, e155, h⟩ := bd h
        obtain ⟨x163, e163, h⟩ := bd h
        exact (t_X11_skill_J165 h).trans hk
      · exact (t_X11_skill_J140 h).trans hk
theorem t_X11_skill_W97 {a0 : Nat} {l1 : Int32} {l2 : Int32} {l3 : Int32} {s97 : Int32 × Mm} {b : Mm} (h : whl (f_X11_skill_L97 a0 l1 l2 l3) s97 = some b) : tl ((fun (q : Mm) => q) b) = tl ((fun (q : Int32 × Mm) => q.2) s97) :=
  whl_tl (g := (fun (q : Int32 × Mm) => q.2)) (gb := (fun (q : Mm) => q)) (fun s x hx => t_X11_skill_L97 hx) h
theorem t_X11_skill_J94 {a0 : Nat} {l1 : Int32} {l2 : Int32} {l3 : Int32} {μ : Mm} {x : ((Int32 × Mm) ⊕ (Mm))} (h : f_X11_skill_J94 a0 l1 l2 l3 μ = some x) : tl ((sm (fun (q : Int32 × Mm) => q.2) (fun (q : Mm) => q)) x) = tl μ := by
  have hk : tl μ = tl μ := rfl
  obtain ⟨b97, w97, h⟩ := bd h
  have hk := (t_X11_skill_W97 w97).trans hk
  exact (t_X11_skill_J207 h).trans hk
theorem t_X11_skill_L49 {a0 : Nat} {l1 : Int32} {l2 : Int32} {l3 : Int32} {s49 : Int32 × Mm} {x : ((Int32 × Mm) ⊕ (Mm))} (h : f_X11_skill_L49 a0 l1 l2 l3 s49 = some x) : tl (sm (fun (q : Int32 × Mm) => q.2) (fun (q : Mm) => q) x) = tl ((fun (q : Int32 × Mm) => q.2) s49) := by
  have hk : tl (s49.2) = tl (s49.2) := rfl
  obtain ⟨x52, e52, h⟩ := bd h
  obtain ⟨x56, e56, h⟩ := bd h
  rcases ite_e h with ⟨_, h⟩ | ⟨_, h⟩
  · have h := Option.some.inj h
    subst h
    exact hk
  · obtain ⟨x61, e61, h⟩ := bd h
    obtain ⟨x70, e70, h⟩ := bd h
    obtain ⟨x75, e75, h⟩ := bd h
    obtain ⟨x77, e77, h⟩ := bd h
    obtain ⟨x82, e82, h⟩ := bd h
    obtain ⟨x84, e84, h⟩ := bd h
    obtain ⟨μ87, e87, h⟩ := bd h
    have hk := (kq_paI e87).trans hk
    obtain ⟨v88, e88, h⟩ := bd h
    have h := Option.some.inj h
    subst h
    exact hk
theorem t_X11_skill_W49 {a0 : Nat} {l1 : Int32} {l2 : Int32} {l3 : Int32} {s49 : Int32 × Mm} {b : Mm} (h : whl (f_X11_skill_L49 a0 l1 l2 l3) s49 = some b) : tl ((fun (q : Mm) => q) b) = tl ((fun (q : Int32 × Mm) => q.2) s49) :=
  whl_tl (g := (fun (q : Int32 × Mm) => q.2)) (gb := (fun (q : Mm) => q)) (fun s x hx => t_X11_skill_L49 hx) h
theorem t_X11_skill_L41 {a0 : Nat} {l1 : Int32} {l2 : Int32} {s41 : Int32 × Mm} {x : ((Int32 × Mm) ⊕ (Mm))} (h : f_X11_skill_L41 a0 l1 l2 s41 = some x) : tl (sm (fun (q : Int32 × Mm) => q.2) (fun (q : Mm) => q) x) = tl ((fun (q : Int32 × Mm) => q.2) s41) := by
  have hk : tl (s41.2) = tl (s41.2) := rfl
  rcases ite_e h with ⟨_, h⟩ | ⟨_, h⟩
  · have h := Option.some.inj h
    subst h
    exact hk
  · obtain ⟨b49, w49, h⟩ := bd h
    have hk := (t_X11_skill_W49 w49).trans hk
    exact (t_X11_skill_J94 h).trans hk
theorem t_X11_skill_W41 {a0 : Nat} {l1 : Int32} {l2 : Int32} {s41 : Int32 × Mm} {b : Mm} (h : whl (f_X11_skill_L41 a0 l1 l2) s41 = some b) : tl ((fun (q : Mm) => q) b) = tl ((fun (q : Int32 × Mm) => q.2) s41) :=
  whl_tl (g := (fun (q : Int32 × Mm) => q.2)) (gb := (fun (q : Mm) => q)) (fun s x hx => t_X11_skill_L41 hx) h
theorem t_X11_skill_J39 {a0 : Nat} {l1 : Int32} {l2 : Int32} {μ : Mm} {x : (Int32 × Mm)} (h : f_X11_skill_J39 a0 l1 l2 μ = some x) : tl ((fun (q : (Int32 × Mm)) => q.2) x) = tl μ := by
  have hk : tl μ = tl μ := rfl
  obtain ⟨b41, w41, h⟩ := bd h
  have hk := (t_X11_skill_W41 w41).trans hk
  exact (t_X11_skill_J213 h).trans hk
theorem t_X11_skill_L20 {a0 : Nat} {l1 : Int32} {l2 : Int32} {s20 : Int32 × Mm} {x : ((Int32 × Mm) ⊕ (Mm))} (h : f_X11_skill_L20 a0 l1 l2 s20 = some x) : tl (sm (fun (q : Int32 × Mm) => q.2) (fun (q : Mm) => q) x) = tl ((fun (q : Int32 × Mm) => q.2) s20) := by
  have hk : tl (s20.2) = tl (s20.2) := rfl
  rcases ite_e h with ⟨_, h⟩ | ⟨_, h⟩
  · have h := Option.some.inj h
    subst h
    exact hk
  · obtain ⟨x27, e27, h⟩ := bd h
    obtain ⟨μ32, e32, h⟩ := bd h
    have hk := (kq_paI e32).trans hk
    obtain ⟨v33, e33, h⟩ := bd h
    have h := Option.some.inj h
    subst h
    exact hk
theorem t_X11_skill_W20 {a0 : Nat} {l1 : Int32} {l2 : Int32} {s20 : Int32 × Mm} {b : Mm} (h : whl (f_X11_skill_L20 a0 l1 l2) s20 = some b) : tl ((fun (q : Mm) => q) b) = tl ((fun (q : Int32 × Mm) => q.2) s20) :=
  whl_tl (g := (fun (q : Int32 × Mm) => q.2)) (gb := (fun (q : Mm) => q)) (fun s x hx => t_X11_skill_L20 hx) h
theorem t_X11_skill {a0 : Nat} {l1 : Int32} {l2 : Int32} {μ : Mm} {x : (Int32 × Mm)} (h : f_X11_skill a0 l1 l2 μ = some x) : tl ((fun (q : (Int32 × Mm)) => q.2) x) = tl μ := by
  have hk : tl μ = tl μ := rfl
  obtain ⟨_, h⟩ := ite_p h
  obtain ⟨x2, e2, h⟩ := bd h
  rcases ite_e h with ⟨_, h⟩ | ⟨_, h⟩
  · have h := Option.some.inj h
    subst h
    exact hk
  · obtain ⟨x9, e9, h⟩ := bd h
    rcases ite_e h with ⟨_, h⟩ | ⟨_, h⟩
    · have h := Option.some.inj h
      subst h
      exact hk
    · obtain ⟨b20, w20, h⟩ := bd h
      have hk := (t_X11_skill_W20 w20).trans hk
      exact (t_X11_skill_J39 h).trans hk
theorem t_X11_sure {a0 : Nat} {l1 : Int32} {l2 : Int32} {μ : Mm} {x : (Int32 × Mm)} (h : f_X11_sure a0 l1 l2 μ = some x) : tl ((fun (q : (Int32 × Mm)) => q.2) x) = tl μ := by
  have hk : tl μ = tl μ := rfl
  obtain ⟨_, h⟩ := ite_p h
  obtain ⟨x2, e2, h⟩ := bd h
  rcases ite_e h with ⟨_, h⟩ | ⟨_, h⟩
  · have h := Option.some.inj h
    subst h
    exact hk
  · obtain ⟨x9, e9, h⟩ := bd h
    rcases ite_e h with ⟨_, h⟩ | ⟨_, h⟩
    · have h := Option.some.inj h
      subst h
      exact hk
    · obtain ⟨x20, e20, h⟩ := bd h
      have hk := (t_X11_findFits e20).trans hk
      obtain ⟨b29, w29, h⟩ := bd h
      have h := Option.some.inj h
      subst h
      exact hk
theorem t_X11_take_J90 {a0 : Nat} {μ : Mm} {x : (Int32 × Mm)} (h : f_X11_take_J90 a0 μ = some x) : tl ((fun (q : (Int32 × Mm)) => q.2) x) = tl μ := by
  have hk : tl μ = tl μ := rfl
  obtain ⟨x91, e91, h⟩ := bd h
  have h := Option.some.inj h
  subst h
  exact hk
theorem t_X11_take_L59 {a0 : Nat} {l1 : Int32} {s59 : Int32 × Mm} {x : ((Int32 × Mm) ⊕ (Mm))} (h : f_X11_take_L59 a0 l1 s59 = some x) : tl (sm (fun (q : Int32 × Mm) => q.2) (fun (q : Mm) => q) x) = tl ((fun (q : Int32 × Mm) => q.2) s59) := by
  have hk : tl (s59.2) = tl (s59.2) := rfl
  rcases ite_e h with ⟨_, h⟩ | ⟨_, h⟩
  · have h := Option.some.inj h
    subst h
    exact hk
  · obtain ⟨x66, e66, h⟩ := bd h
    obtain ⟨x71, e71, h⟩ := bd h
    obtain ⟨x82, e82, h⟩ := bd h
    obtain ⟨μ83, e83, h⟩ := bd h
    have hk := (kq_paI e83).trans hk
    obtain ⟨v84, e84, h⟩ := bd h
    have h := Option.some.inj h
    subst h
    exact hk
theorem t_X11_take_W59 {a0 : Nat} {l1 : Int32} {s59 : Int32 × Mm} {b : Mm} (h : whl (f_X11_take_L59 a0 l1) s59 = some b) : tl ((fun (q : Mm) => q) b) = tl ((fun (q : Int32 × Mm) => q.2) s59) :=
  whl_tl (g := (fun (q : Int32 × Mm) => q.2)) (gb := (fun (q : Mm) => q)) (fun s x hx => t_X11_take_L59 hx) h
theorem t_X11_take {a0 : Nat} {l1 : Int32} {μ : Mm} {x : (Int32 × Mm)} (h : f_X11_take a0 l1 μ = some x) : tl ((fun (q : (Int32 × Mm)) => q.2) x) = tl μ := by
  have hk : tl μ = tl μ := rfl
  obtain ⟨_, h⟩ := ite_p h
  obtain ⟨x1, e1, h⟩ := bd h
  rcases ite_e h with ⟨_, h⟩ | ⟨_, h⟩
  · have h := Option.some.inj h
    subst h
    exact hk
  · obtain ⟨x11, e11, h⟩ := bd h
    obtain ⟨x15, e15, h⟩ := bd h
    rcases ite_e h with ⟨_, h⟩ | ⟨_, h⟩
    · have h := Option.some.inj h
      subst h
      exact hk
    · obtain ⟨μ24, e24, h⟩ := bd h
      have hk := (kq_pfZ e24).trans hk
      obtain ⟨x29, e29, h⟩ := bd h
      obtain ⟨x33, e33, h⟩ := bd h
      obtain ⟨μ34, e34, h⟩ := bd h
      have hk := (kq_pfI e34).trans hk
      obtain ⟨x39, e39, h⟩ := bd h
      obtain ⟨x43, e43, h⟩ := bd h
      obtain ⟨μ44, e44, h⟩ := bd h
      have hk := (kq_pfI e44).trans hk
      obtain ⟨x49, e49, h⟩ := bd h
      obtain ⟨x53, e53, h⟩ := bd h
      obtain ⟨μ54, e54, h⟩ := bd h
      have hk := (kq_pfL e54).trans hk
      obtain ⟨b59, w59, h⟩ := bd h
      have hk := (t_X11_take_W59 w59).trans hk
      exact (t_X11_take_J90 h).trans hk
theorem t_X11_town_J63 {a0 : Nat} {l1 : Int32} {μ : Mm} {x : (Int32 × Mm)} (h : f_X11_town_J63 a0 l1 μ = some x) : tl ((fun (q : (Int32 × Mm)) => q.2) x) = tl μ := by
  have hk : tl μ = tl μ := rfl
  obtain ⟨x66, e66, h⟩ := bd h
  rcases ite_e h with ⟨_, h⟩ | ⟨_, h⟩
  · obtain ⟨x74, e74, h⟩ := bd h
    have hk := (t_X11_fails e74).trans hk
    have h := Option.some.inj h
    subst h
    exact hk
  · obtain ⟨x81, e81, h⟩ := bd h
    have hk := (t_X11_settle e81).trans hk
    obtain ⟨μ86, e86, h⟩ := bd h
    have hk := (kq_pfI e86).trans hk
    have h := Option.some.inj h
    subst h
    exact hk
theorem t_X11_town_J45 {a0 : Nat} {μ : Mm} {x : (Int32 × Mm)} (h : f_X11_town_J45 a0 μ = some x) : tl ((fun (q : (Int32 × Mm)) => q.2) x) = tl μ := by
  have hk : tl μ = tl μ := rfl
  obtain ⟨x47, e47, h⟩ := bd h
  have hk := (t_X11_fails e47).trans hk
  have h := Option.some.inj h
  subst h
  exact hk
theorem t_X11_town_L20 {a0 : Nat} {s20 : Int32 × Mm} {x : ((Int32 × Mm) ⊕ ((Mm) ⊕ ((Mm) ⊕ (Int32 × Mm))))} (h : f_X11_town_L20 a0 s20 = some x) : tl (sm (fun (q : Int32 × Mm) => q.2) (sm (fun (q : Mm) => q) (sm (fun (q : Mm) => q) (fun (q : Int32 × Mm) => q.2))) x) = tl ((fun (q : Int32 × Mm) => q.2) s20) := by
  have hk : tl (s20.2) = tl (s20.2) := rfl
  obtain ⟨x21, e21, h⟩ := bd h
  rcases ite_e h with ⟨_, h⟩ | ⟨_, h⟩
  · have h := Option.some.inj h
    subst h
    exact hk
  · obtain ⟨x29, e29, h⟩ := bd h
    have hk := (t_X11_readClause e29).trans hk
    rcases ite_e h with ⟨_, h⟩ | ⟨_, h⟩
    · have h := Option.some.inj h
      subst h
      exact hk
    · obtain ⟨x38, e38, h⟩ := bd h
      rcases ite_e h with ⟨_, h⟩ | ⟨_, h⟩
      · obtain ⟨x54, e54, h⟩ := bd h
        have hk := (t_X11_scan e54).trans hk
        obtain ⟨v57, e57, h⟩ := bd h
        have h := Option.some.inj h
        subst h
        exact hk
      · have h := Option.some.inj h
        subst h
        exact hk
theorem t_X11_town_W20 {a0 : Nat} {s20 : Int32 × Mm} {b : (Mm) ⊕ ((Mm) ⊕ (Int32 × Mm))} (h : whl (f_X11_town_L20 a0) s20 = some b) : tl ((sm (fun (q : Mm) => q) (sm (fun (q : Mm) => q) (fun (q : Int32 × Mm) => q.2))) b) = tl ((fun (q : Int32 × Mm) => q.2) s20) :=
  whl_tl (g := (fun (q : Int32 × Mm) => q.2)) (gb := (sm (fun (q : Mm) => q) (sm (fun (q : Mm) => q) (fun (q : Int32 × Mm) => q.2)))) (fun s x hx => t_X11_town_L20 hx) h
theorem t_X11_town {a0 : Nat} {μ : Mm} {x : (Int32 × Mm)} (h : f_X11_town a0 μ = some x) : tl ((fun (q : (Int32 × Mm)) => q.2) x) = tl μ := by
  have hk : tl μ = tl μ := rfl
  obtain ⟨_, h⟩ := ite_p h
  obtain ⟨x1, e1, h⟩ := bd h
  have hk := (t_X11_takeTape e1).trans hk
  obtain ⟨μ6, e6, h⟩ := bd h
  have hk := (kq_pfI e6).trans hk
  obtain ⟨μ11, e11, h⟩ := bd h
  have hk := (kq_pfI e11).trans hk
  obtain ⟨x15, e15, h⟩ := bd h
  have hk := (t_X11_begin e15).trans hk
  obtain ⟨b20, w20, h⟩ := bd h
  have hk := (t_X11_town_W20 w20).trans hk
  rcases b20 with b20 | b20
  · have h := Option.some.inj h
    subst h
    exact hk
  · rcases b20 with b20 | b20
    · exact (t_X11_town_J45 h).trans hk
    · exact (t_X11_town_J63 h).trans hk
theorem t_X11_turn {a0 : Nat} {l1 : Int32} {μ : Mm} {x : (Int32 × Mm)} (h : f_X11_turn a0 l1 μ = some x) : tl ((fun (q : (Int32 × Mm)) => q.2) x) = tl μ := by
  have hk : tl μ = tl μ := rfl
  obtain ⟨_, h⟩ := ite_p h
  obtain ⟨x3, e3, h⟩ := bd h
  obtain ⟨x8, e8, h⟩ := bd h
  rcases ite_e h with ⟨_, h⟩ | ⟨_, h⟩
  · have h := Option.some.inj h
    subst h
    exact hk
  · obtain ⟨μ19, e19, h⟩ := bd h
    have hk := (kq_pfI e19).trans hk
    have h := Option.some.inj h
    subst h
    exact hk
