theorem j_X11_countFits_W49 {a0 : Nat} {l1 : Int32} {s49 : Int32 × Mm} {b : Mm} {q : Nat} (h : whl (f_X11_countFits_L49 a0 l1) s49 = some b)  : mm_L ((fun (q : Mm) => q) b) q = mm_L ((fun (q : Int32 × Mm) => q.2) s49) q := by
  have key := whl_inv (P := fun s' => mm_L ((fun (q : Int32 × Mm) => q.2) s') q = mm_L ((fun (q : Int32 × Mm) => q.2) s49) q ∧ mm_P ((fun (q : Int32 × Mm) => q.2) s') = mm_P ((fun (q : Int32 × Mm) => q.2) s49)) (Q := fun b' => mm_L ((fun (q : Mm) => q) b') q = mm_L ((fun (q : Int32 × Mm) => q.2) s49) q) (fun s' x hs1 hx => ?_) ⟨rfl, rfl⟩ h
  · exact key
  · obtain ⟨h1, hP⟩ := hs1
    have k1 := (j_X11_countFits_L49 hx ).trans h1
    have k2 := (p_X11_countFits_L49 hx).trans hP
    cases x with
    | inl z => exact ⟨k1, k2⟩
    | inr z => exact k1
theorem j_X11_countFits_L24 {a0 : Nat} {s24 : Int32 × Mm} {x : ((Int32 × Mm) ⊕ (Mm))} {q : Nat} (h : f_X11_countFits_L24 a0 s24 = some x)  : mm_L (sm (fun (q : Int32 × Mm) => q.2) (fun (q : Mm) => q) x) q = mm_L ((fun (q : Int32 × Mm) => q.2) s24) q := by
  have hi : mm_L ((fun (q : Int32 × Mm) => q.2) s24) q = mm_L ((fun (q : Int32 × Mm) => q.2) s24) q := rfl
  have hp : mm_P ((fun (q : Int32 × Mm) => q.2) s24) = mm_P ((fun (q : Int32 × Mm) => q.2) s24) := rfl
  have r_a0 : rch (mm_P ((fun (q : Int32 × Mm) => q.2) s24)) a0 [] a0 := rfl
  obtain ⟨x26, e26, h⟩ := bd h
  rcases ite_e h with ⟨_, h⟩ | ⟨_, h⟩
  · have h := Option.some.inj h
    subst h
    exact hi
  · obtain ⟨x34, e34, h⟩ := bd h
    rcases ite_e h with ⟨_, h⟩ | ⟨_, h⟩
    · exact (j_X11_countFits_J156 h ).trans hi
    · obtain ⟨x44, e44, h⟩ := bd h
      have hi := (j_X11_forget e44 ).trans hi
      have hp := (p_X11_forget e44).trans hp
      obtain ⟨b49, w49, h⟩ := bd h
      have hi := (j_X11_countFits_W49 w49 ).trans hi
      have hp := (p_X11_countFits_W49 w49).trans hp
      exact (j_X11_countFits_J156 h ).trans hi
theorem j_X11_countFits_W24 {a0 : Nat} {s24 : Int32 × Mm} {b : Mm} {q : Nat} (h : whl (f_X11_countFits_L24 a0) s24 = some b)  : mm_L ((fun (q : Mm) => q) b) q = mm_L ((fun (q : Int32 × Mm) => q.2) s24) q := by
  have key := whl_inv (P := fun s' => mm_L ((fun (q : Int32 × Mm) => q.2) s') q = mm_L ((fun (q : Int32 × Mm) => q.2) s24) q ∧ mm_P ((fun (q : Int32 × Mm) => q.2) s') = mm_P ((fun (q : Int32 × Mm) => q.2) s24)) (Q := fun b' => mm_L ((fun (q : Mm) => q) b') q = mm_L ((fun (q : Int32 × Mm) => q.2) s24) q) (fun s' x hs1 hx => ?_) ⟨rfl, rfl⟩ h
  · exact key
  · obtain ⟨h1, hP⟩ := hs1
    have k1 := (j_X11_countFits_L24 hx ).trans h1
    have k2 := (p_X11_countFits_L24 hx).trans hP
    cases x with
    | inl z => exact ⟨k1, k2⟩
    | inr z => exact k1
theorem j_X11_countFits_J22 {a0 : Nat} {μ : Mm} {x : Mm} {q : Nat} (h : f_X11_countFits_J22 a0 μ = some x)  : mm_L ((fun (q : Mm) => q) x) q = mm_L μ q := by
  have hi : mm_L μ q = mm_L μ q := rfl
  have hp : mm_P μ = mm_P μ := rfl
  have r_a0 : rch (mm_P μ) a0 [] a0 := rfl
  obtain ⟨b24, w24, h⟩ := bd h
  have hi := (j_X11_countFits_W24 w24 ).trans hi
  have hp := (p_X11_countFits_W24 w24).trans hp
  have h := Option.some.inj h
  subst h
  exact hi
theorem j_X11_countFits_L2 {a0 : Nat} {s2 : Int32 × Mm} {x : ((Int32 × Mm) ⊕ (Mm))} {q : Nat} (h : f_X11_countFits_L2 a0 s2 = some x)  : mm_L (sm (fun (q : Int32 × Mm) => q.2) (fun (q : Mm) => q) x) q = mm_L ((fun (q : Int32 × Mm) => q.2) s2) q := by
  have hi : mm_L ((fun (q : Int32 × Mm) => q.2) s2) q = mm_L ((fun (q : Int32 × Mm) => q.2) s2) q := rfl
  have hp : mm_P ((fun (q : Int32 × Mm) => q.2) s2) = mm_P ((fun (q : Int32 × Mm) => q.2) s2) := rfl
  have r_a0 : rch (mm_P ((fun (q : Int32 × Mm) => q.2) s2)) a0 [] a0 := rfl
  rcases ite_e h with ⟨_, h⟩ | ⟨_, h⟩
  · have h := Option.some.inj h
    subst h
    exact hi
  · obtain ⟨x10, e10, h⟩ := bd h
    have r_x10 := rch_f r_a0 e10 hp
    obtain ⟨μ15, e15, h⟩ := bd h
    have hi := (kj_paI e15).trans hi
    have hp := (kp_paI e15).trans hp
    obtain ⟨v16, e16, h⟩ := bd h
    have h := Option.some.inj h
    subst h
    exact hi
theorem j_X11_countFits_W2 {a0 : Nat} {s2 : Int32 × Mm} {b : Mm} {q : Nat} (h : whl (f_X11_countFits_L2 a0) s2 = some b)  : mm_L ((fun (q : Mm) => q) b) q = mm_L ((fun (q : Int32 × Mm) => q.2) s2) q := by
  have key := whl_inv (P := fun s' => mm_L ((fun (q : Int32 × Mm) => q.2) s') q = mm_L ((fun (q : Int32 × Mm) => q.2) s2) q ∧ mm_P ((fun (q : Int32 × Mm) => q.2) s') = mm_P ((fun (q : Int32 × Mm) => q.2) s2)) (Q := fun b' => mm_L ((fun (q : Mm) => q) b') q = mm_L ((fun (q : Int32 × Mm) => q.2) s2) q) (fun s' x hs1 hx => ?_) ⟨rfl, rfl⟩ h
  · exact key
  · obtain ⟨h1, hP⟩ := hs1
    have k1 := (j_X11_countFits_L2 hx ).trans h1
    have k2 := (p_X11_countFits_L2 hx).trans hP
    cases x with
    | inl z => exact ⟨k1, k2⟩
    | inr z => exact k1
theorem j_X11_countFits {a0 : Nat} {μ : Mm} {x : Mm} {q : Nat} (h : f_X11_countFits a0 μ = some x)  : mm_L ((fun (q : Mm) => q) x) q = mm_L μ q := by
  have hi : mm_L μ q = mm_L μ q := rfl
  have hp : mm_P μ = mm_P μ := rfl
  have r_a0 : rch (mm_P μ) a0 [] a0 := rfl
  obtain ⟨_, h⟩ := ite_p h
  obtain ⟨b2, w2, h⟩ := bd h
  have hi := (j_X11_countFits_W2 w2 ).trans hi
  have hp := (p_X11_countFits_W2 w2).trans hp
  exact (j_X11_countFits_J22 h ).trans hi
theorem j_X11_fits_L60 {a0 : Nat} {l1 : Int64} {l3 : Int32} {l4 : Int32} {s60 : Int32 × Mm} {x : ((Int32 × Mm) ⊕ ((Mm) ⊕ (Mm)))} {q : Nat} (h : f_X11_fits_L60 a0 l1 l3 l4 s60 = some x)  : mm_L (sm (fun (q : Int32 × Mm) => q.2) (sm (fun (q : Mm) => q) (fun (q : Mm) => q)) x) q = mm_L ((fun (q : Int32 × Mm) => q.2) s60) q := by
  have hi : mm_L ((fun (q : Int32 × Mm) => q.2) s60) q = mm_L ((fun (q : Int32 × Mm) => q.2) s60) q := rfl
  have hp : mm_P ((fun (q : Int32 × Mm) => q.2) s60) = mm_P ((fun (q : Int32 × Mm) => q.2) s60) := rfl
  have r_a0 : rch (mm_P ((fun (q : Int32 × Mm) => q.2) s60)) a0 [] a0 := rfl
  rcases ite_e h with ⟨_, h⟩ | ⟨_, h⟩
  · have h := Option.some.inj h
    subst h
    exact hi
  · obtain ⟨x73, e73, h⟩ := bd h
    have hi := (j_X11_byDay e73 ).trans hi
    have hp := (p_X11_byDay e73).trans hp
    obtain ⟨x80, e80, h⟩ := bd h
    rcases ite_e h with ⟨_, h⟩ | ⟨_, h⟩
    · have h := Option.some.inj h
      subst h
      exact hi
    · obtain ⟨x94, e94, h⟩ := bd h
      have hi := (j_X11_byNight e94 ).trans hi
      have hp := (p_X11_byNight e94).trans hp
      obtain ⟨v97, e97, h⟩ := bd h
      have h := Option.some.inj h
      subst h
      exact hi
theorem j_X11_fits_W60 {a0 : Nat} {l1 : Int64} {l3 : Int32} {l4 : Int32} {s60 : Int32 × Mm} {b : (Mm) ⊕ (Mm)} {q : Nat} (h : whl (f_X11_fits_L60 a0 l1 l3 l4) s60 = some b)  : mm_L ((sm (fun (q : Mm) => q) (fun (q : Mm) => q)) b) q = mm_L ((fun (q : Int32 × Mm) => q.2) s60) q := by
  have key := whl_inv (P := fun s' => mm_L ((fun (q : Int32 × Mm) => q.2) s') q = mm_L ((fun (q : Int32 × Mm) => q.2) s60) q ∧ mm_P ((fun (q : Int32 × Mm) => q.2) s') = mm_P ((fun (q : Int32 × Mm) => q.2) s60)) (Q := fun b' => mm_L ((sm (fun (q : Mm) => q) (fun (q : Mm) => q)) b') q = mm_L ((fun (q : Int32 × Mm) => q.2) s60) q) (fun s' x hs1 hx => ?_) ⟨rfl, rfl⟩ h
  · exact key
  · obtain ⟨h1, hP⟩ := hs1
    have k1 := (j_X11_fits_L60 hx ).trans h1
    have k2 := (p_X11_fits_L60 hx).trans hP
    cases x with
    | inl z => exact ⟨k1, k2⟩
    | inr z => exact k1
theorem j_X11_fits_J53 {a0 : Nat} {l1 : Int64} {l3 : Int32} {l4 : Int32} {μ : Mm} {x : (Int32 × Mm)} {q : Nat} (h : f_X11_fits_J53 a0 l1 l3 l4 μ = some x)  : mm_L ((fun (q : (Int32 × Mm)) => q.2) x) q = mm_L μ q := by
  have hi : mm_L μ q = mm_L μ q := rfl
  have hp : mm_P μ = mm_P μ := rfl
  have r_a0 : rch (mm_P μ) a0 [] a0 := rfl
  obtain ⟨x54, e54, h⟩ := bd h
  have hi := (j_X11_forget e54 ).trans hi
  have hp := (p_X11_forget e54).trans hp
  obtain ⟨b60, w60, h⟩ := bd h
  have hi := (j_X11_fits_W60 w60 ).trans hi
  have hp := (p_X11_fits_W60 w60).trans hp
  rcases b60 with b60 | b60
  · have h := Option.some.inj h
    subst h
    exact hi
  · have h := Option.some.inj h
    subst h
    exact hi
theorem j_X11_fits {a0 : Nat} {l1 : Int64} {l3 : Int32} {μ : Mm} {x : (Int32 × Mm)} {q : Nat} (h : f_X11_fits a0 l1 l3 μ = some x)  : mm_L ((fun (q : (Int32 × Mm)) => q.2) x) q = mm_L μ q := by
  have hi : mm_L μ q = mm_L μ q := rfl
  have hp : mm_P μ = mm_P μ := rfl
  have r_a0 : rch (mm_P μ) a0 [] a0 := rfl
  obtain ⟨_, h⟩ := ite_p h
  obtain ⟨b6, w6, h⟩ := bd h
  exact (j_X11_fits_J53 h ).trans hi
theorem j_X11_findFits_J72 {a0 : Nat} {l1 : Int32} {l2 : Int32} {l3 : Int32} {μ : Mm} {x : ((Int32 × Int32 × Mm) ⊕ (Int32 × Mm))} {q : Nat} (h : f_X11_findFits_J72 a0 l1 l2 l3 μ = some x)  : mm_L ((sm (fun (q : Int32 × Int32 × Mm) => q.2.2) (fun (q : Int32 × Mm) => q.2)) x) q = mm_L μ q := by
  have hi : mm_L μ q = mm_L μ q := rfl
  have hp : mm_P μ = mm_P μ := rfl
  have r_a0 : rch (mm_P μ) a0 [] a0 := rfl
  obtain ⟨v72, e72, h⟩ := bd h
  have h := Option.some.inj h
  subst h
  exact hi
theorem j_X11_findFits_L26 {a0 : Nat} {l1 : Int32} {s26 : Int32 × Int32 × Mm} {x : ((Int32 × Int32 × Mm) ⊕ (Int32 × Mm))} {q : Nat} (h : f_X11_findFits_L26 a0 l1 s26 = some x) (c_a0 : ∀ p ∈ ([[57]] : List (List Nat)), ¬ rch (mm_P ((fun (q : Int32 × Int32 × Mm) => q.2.2) s26)) a0 p q) : mm_L (sm (fun (q : Int32 × Int32 × Mm) => q.2.2) (fun (q : Int32 × Mm) => q.2) x) q = mm_L ((fun (q : Int32 × Int32 × Mm) => q.2.2) s26) q := by
  have hi : mm_L ((fun (q : Int32 × Int32 × Mm) => q.2.2) s26) q = mm_L ((fun (q : Int32 × Int32 × Mm) => q.2.2) s26) q := rfl
  have hp : mm_P ((fun (q : Int32 × Int32 × Mm) => q.2.2) s26) = mm_P ((fun (q : Int32 × Int32 × Mm) => q.2.2) s26) := rfl
  have r_a0 : rch (mm_P ((fun (q : Int32 × Int32 × Mm) => q.2.2) s26)) a0 [] a0 := rfl
  obtain ⟨x28, e28, h⟩ := bd h
  rcases ite_e h with ⟨_, h⟩ | ⟨_, h⟩
  · have h := Option.some.inj h
    subst h
    exact hi
  · obtain ⟨x36, e36, h⟩ := bd h
    have r_x36 := rch_f r_a0 e36 hp
    obtain ⟨x40, e40, h⟩ := bd h
    obtain ⟨x42, e42, h⟩ := bd h
    have hi := (j_X11_fits e42 ).trans hi
    have hp := (p_X11_fits e42).trans hp
    rcases ite_e h with ⟨_, h⟩ | ⟨_, h⟩
    · exact (j_X11_findFits_J72 h ).trans hi
    · obtain ⟨x52, e52, h⟩ := bd h
      have r_x52 := rch_f r_a0 e52 hp
      obtain ⟨x60, e60, h⟩ := bd h
      obtain ⟨μ68, e68, h⟩ := bd h
      have hi := (kj_paL e68 (rch_ne c_a0 (by decide) r_x52)).trans hi
      have hp := (kp_paL e68).trans hp
      obtain ⟨v69, e69, h⟩ := bd h
      exact (j_X11_findFits_J72 h ).trans hi
theorem j_X11_findFits_W26 {a0 : Nat} {l1 : Int32} {s26 : Int32 × Int32 × Mm} {b : Int32 × Mm} {q : Nat} (h : whl (f_X11_findFits_L26 a0 l1) s26 = some b) (c_a0 : ∀ p ∈ ([[57]] : List (List Nat)), ¬ rch (mm_P ((fun (q : Int32 × Int32 × Mm) => q.2.2) s26)) a0 p q) : mm_L ((fun (q : Int32 × Mm) => q.2) b) q = mm_L ((fun (q : Int32 × Int32 × Mm) => q.2.2) s26) q := by
  have key := whl_inv (P := fun s' => mm_L ((fun (q : Int32 × Int32 × Mm) => q.2.2) s') q = mm_L ((fun (q : Int32 × Int32 × Mm) => q.2.2) s26) q ∧ mm_P ((fun (q : Int32 × Int32 × Mm) => q.2.2) s') = mm_P ((fun (q : Int32 × Int32 × Mm) => q.2.2) s26)) (Q := fun b' => mm_L ((fun (q : Int32 × Mm) => q.2) b') q = mm_L ((fun (q : Int32 × Int32 × Mm) => q.2.2) s26) q) (fun s' x hs1 hx => ?_) ⟨rfl, rfl⟩ h
  · exact key
  · obtain ⟨h1, hP⟩ := hs1
    have k1 := (j_X11_findFits_L26 hx (fun p hp hr => c_a0 p hp (by rw [← hP]; exact hr))).trans h1
    have k2 := (p_X11_findFits_L26 hx).trans hP
    cases x with
    | inl z => exact ⟨k1, k2⟩
    | inr z => exact k1
theorem j_X11_findFits_J24 {a0 : Nat} {l1 : Int32} {l2 : Int32} {μ : Mm} {x : (Int32 × Mm)} {q : Nat} (h : f_X11_findFits_J24 a0 l1 l2 μ = some x) (c_a0 : ∀ p ∈ ([[57]] : List (List Nat)), ¬ rch (mm_P μ) a0 p q) : mm_L ((fun (q : (Int32 × Mm)) => q.2) x) q = mm_L μ q := by
  have hi : mm_L μ q = mm_L μ q := rfl
  have hp : mm_P μ = mm_P μ := rfl
  have r_a0 : rch (mm_P μ) a0 [] a0 := rfl
  obtain ⟨b26, w26, h⟩ := bd h
  have hi := (j_X11_findFits_W26 w26 (rch_sub c_a0 r_a0 (by decide) hp)).trans hi
  have hp := (p_X11_findFits_W26 w26).trans hp
  have h := Option.some.inj h
  subst h
  exact hi
theorem j_X11_findFits_L4 {a0 : Nat} {l1 : Int32} {l2 : Int32} {s4 : Int32 × Mm} {x : ((Int32 × Mm) ⊕ (Mm))} {q : Nat} (h : f_X11_findFits_L4 a0 l1 l2 s4 = some x) (c_a0 : ∀ p ∈ ([[57]] : List (List Nat)), ¬ rch (mm_P ((fun (q : Int32 × Mm) => q.2) s4)) a0 p q) : mm_L (sm (fun (q : Int32 × Mm) => q.2) (fun (q : Mm) => q) x) q = mm_L ((fun (q : Int32 × Mm) => q.2) s4) q := by
  have hi : mm_L ((fun (q : Int32 × Mm) => q.2) s4) q = mm_L ((fun (q : Int32 × Mm) => q.2) s4) q := rfl
  have hp : mm_P ((fun (q : Int32 × Mm) => q.2) s4) = mm_P ((fun (q : Int32 × Mm) => q.2) s4) := rfl
  have r_a0 : rch (mm_P ((fun (q : Int32 × Mm) => q.2) s4)) a0 [] a0 := rfl
  rcases ite_e h with ⟨_, h⟩ | ⟨_, h⟩
  · have h := Option.some.inj h
    subst h
    exact hi
  · obtain ⟨x12, e12, h⟩ := bd h
    have r_x12 := rch_f r_a0 e12 hp
    obtain ⟨μ17, e17, h⟩ := bd h
    have hi := (kj_paL e17 (rch_ne c_a0 (by decide) r_x12)).trans hi
    have hp := (kp_paL e17).trans hp
    obtain ⟨v18, e18, h⟩ := bd h
    have h := Option.some.inj h
    subst h
    exact hi
theorem j_X11_findFits_W4 {a0 : Nat} {l1 : Int32} {l2 : Int32} {s4 : Int32 × Mm} {b : Mm} {q : Nat} (h : whl (f_X11_findFits_L4 a0 l1 l2) s4 = some b) (c_a0 : ∀ p ∈ ([[57]] : List (List Nat)), ¬ rch (mm_P ((fun (q : Int32 × Mm) => q.2) s4)) a0 p q) : mm_L ((fun (q : Mm) => q) b) q = mm_L ((fun (q : Int32 × Mm) => q.2) s4) q := by
  have key := whl_inv (P := fun s' => mm_L ((fun (q : Int32 × Mm) => q.2) s') q = mm_L ((fun (q : Int32 × Mm) => q.2) s4) q ∧ mm_P ((fun (q : Int32 × Mm) => q.2) s') = mm_P ((fun (q : Int32 × Mm) => q.2) s4)) (Q := fun b' => mm_L ((fun (q : Mm) => q) b') q = mm_L ((fun (q : Int32 × Mm) => q.2) s4) q) (fun s' x hs1 hx => ?_) ⟨rfl, rfl⟩ h
  · exact key
  · obtain ⟨h1, hP⟩ := hs1
    have k1 := (j_X11_findFits_L4 hx (fun p hp hr => c_a0 p hp (by rw [← hP]; exact hr))).trans h1
    have k2 := (p_X11_findFits_L4 hx).trans hP
    cases x with
    | inl z => exact ⟨k1, k2⟩
    | inr z => exact k1
theorem j_X11_findFits {a0 : Nat} {l1 : Int32} {μ : Mm} {x : (Int32 × Mm)} {q : Nat} (h : f_X11_findFits a0 l1 μ = some x) (c_a0 : ∀ p ∈ ([[57]] : List (List Nat)), ¬ rch (mm_P μ) a0 p q) : mm_L ((fun (q : (Int32 × Mm)) => q.2) x) q = mm_L μ q := by
  have hi : mm_L μ q = mm_L μ q := rfl
  have hp : mm_P μ = mm_P μ := rfl
  have r_a0 : rch (mm_P μ) a0 [] a0 := rfl
  obtain ⟨_, h⟩ := ite_p h
  obtain ⟨b4, w4, h⟩ := bd h
  have hi := (j_X11_findFits_W4 w4 (rch_sub c_a0 r_a0 (by decide) hp)).trans hi
  have hp := (p_X11_findFits_W4 w4).trans hp
  exact (j_X11_findFits_J24 h (rch_sub c_a0 r_a0 (by decide) hp)).trans hi
theorem j_X11_ask_J154 {l1 : Int32} {l4 : Int32} {μ : Mm} {x : (Int32 × Mm)} {q : Nat} (h : f_X11_ask_J154 l1 l4 μ = some x)  : mm_L ((fun (q : (Int32 × Mm)) => q.2) x) q = mm_L μ q := by
  have hi : mm_L μ q = mm_L μ q := rfl
  have hp : mm_P μ = mm_P μ := rfl
  rcases ite_e h with ⟨_, h⟩ | ⟨_, h⟩
  · have h := Option.some.inj h
    subst h
    exact hi
  · rcases ite_e h with ⟨_, h⟩ | ⟨_, h⟩
    · have h := Option.some.inj h
      subst h
      exact hi
    · rcases ite_e h with ⟨_, h⟩ | ⟨_, h⟩
      · have h := Option.some.inj h
        subst h
        exact hi
      · have h := Option.some.inj h
        subst h
        exact hi
theorem j_X11_ask {a0 : Nat} {l1 : Int32} {μ : Mm} {x : (Int32 × Mm)} {q : Nat} (h : f_X11_ask a0 l1 μ = some x) (c_a0 : ∀ p ∈ ([[57]] : List (List Nat)), ¬ rch (mm_P μ) a0 p q) : mm_L ((fun (q : (Int32 × Mm)) => q.2) x) q = mm_L μ q := by
  have hi : mm_L μ q = mm_L μ q := rfl
  have hp : mm_P μ = mm_P μ := rfl
  have r_a0 : rch (mm_P μ) a0 [] a0 := rfl
  obtain ⟨_, h⟩ := ite_p h
  obtain ⟨x3, e3, h⟩ := bd h
  rcases ite_e h with ⟨_, h⟩ | ⟨_, h⟩
  · have h := Option.some.inj h
    subst h
    exact hi
  · obtain ⟨x16, e16, h⟩ := bd h
    have hi := (j_X11_findFits e16 (rch_sub c_a0 r_a0 (by decide) hp)).trans hi
    have hp := (p_X11_findFits e16).trans hp
    obtain ⟨x21, e21, h⟩ := bd h
    have hi := (j_X11_countFits e21 ).trans hi
    have hp := (p_X11_countFits e21).trans hp
    obtain ⟨b32, w32, h⟩ := bd h
    exact (j_X11_ask_J154 h ).trans hi
theorem j_X11_begin__L33 {a0 : Nat} {s33 : Int32 × Mm} {x : ((Int32 × Mm) ⊕ (Mm))} {q : Nat} (h : f_X11_begin__L33 a0 s33 = some x)  : mm_L (sm (fun (q : Int32 × Mm) => q.2) (fun (q : Mm) => q) x) q = mm_L ((fun (q : Int32 × Mm) => q.2) s33) q := by
  have hi : mm_L ((fun (q : Int32 × Mm) => q.2) s33) q = mm_L ((fun (q : Int32 × Mm) => q.2) s33) q := rfl
  have hp : mm_P ((fun (q : Int32 × Mm) => q.2) s33) = mm_P ((fun (q : Int32 × Mm) => q.2) s33) := rfl
  have r_a0 : rch (mm_P ((fun (q : Int32 × Mm) => q.2) s33)) a0 [] a0 := rfl
  rcases ite_e h with ⟨_, h⟩ | ⟨_, h⟩
  · have h := Option.some.inj h
    subst h
    exact hi
  · obtain ⟨x40, e40, h⟩ := bd h
    have r_x40 := rch_f r_a0 e40 hp
    obtain ⟨μ45, e45, h⟩ := bd h
    have hi := (kj_paI e45).trans hi
    have hp := (kp_paI e45).trans hp
    obtain ⟨v46, e46, h⟩ := bd h
    have h := Option.some.inj h
    subst h
    exact hi
theorem j_X11_begin__W33 {a0 : Nat} {s33 : Int32 × Mm} {b : Mm} {q : Nat} (h : whl (f_X11_begin__L33 a0) s33 = some b)  : mm_L ((fun (q : Mm) => q) b) q = mm_L ((fun (q : Int32 × Mm) => q.2) s33) q := by
  have key := whl_inv (P := fun s' => mm_L ((fun (q : Int32 × Mm) => q.2) s') q = mm_L ((fun (q : Int32 × Mm) => q.2) s33) q ∧ mm_P ((fun (q : Int32 × Mm) => q.2) s') = mm_P ((fun (q : Int32 × Mm) => q.2) s33)) (Q := fun b' => mm_L ((fun (q : Mm) => q) b') q = mm_L ((fun (q : Int32 × Mm) => q.2) s33) q) (fun s' x hs1 hx => ?_) ⟨rfl, rfl⟩ h
  · exact key
  · obtain ⟨h1, hP⟩ := hs1
    have k1 := (j_X11_begin__L33 hx ).trans h1
    have k2 := (p_X11_begin__L33 hx).trans hP
    cases x with
    | inl z => exact ⟨k1, k2⟩
    | inr z => exact k1
theorem j_X11_begin_ {a0 : Nat} {l1 : Int32} {μ : Mm} {x : (Int32 × Mm)} {q : Nat} (h : f_X11_begin_ a0 l1 μ = some x) (c_a0 : ∀ p ∈ ([[]] : List (List Nat)), ¬ rch (mm_P μ) a0 p q) : mm_L ((fun (q : (Int32 × Mm)) => q.2) x) q = mm_L μ q := by
  have hi : mm_L μ q = mm_L μ q := rfl
  have hp : mm_P μ = mm_P μ := rfl
  have r_a0 : rch (mm_P μ) a0 [] a0 := rfl
  obtain ⟨_, h⟩ := ite_p h
  rcases ite_e h with ⟨_, h⟩ | ⟨_, h⟩
  · obtain ⟨μ10, e10, h⟩ := bd h
    have hi := (kj_pfL e10 (rch_ne c_a0 (by decide) r_a0)).trans hi
    have hp := (kp_pfL e10).trans hp
    obtain ⟨μ15, e15, h⟩ := bd h
    have hi := (kj_pfZ e15).trans hi
    have hp := (kp_pfZ e15).trans hp
    obtain ⟨x20, e20, h⟩ := bd h
    obtain ⟨μ23, e23, h⟩ := bd h
    have hi := (kj_pfI e23).trans hi
    have hp := (kp_pfI e23).trans hp
    obtain ⟨μ28, e28, h⟩ := bd h
    have hi := (kj_pfI e28).trans hi
    have hp := (kp_pfI e28).trans hp
    obtain ⟨b33, w33, h⟩ := bd h
    have hi := (j_X11_begin__W33 w33 ).trans hi
    have hp := (p_X11_begin__W33 w33).trans hp
    have h := Option.some.inj h
    subst h
    exact hi
  · have h := Option.some.inj h
    subst h
    exact hi
theorem j_X11_live_J42 {a0 : Nat} {l1 : Int64} {l3 : Int32} {l4 : Int32} {l5 : Int32} {l6 : Int32} {μ : Mm} {x : ((Int32 × Mm) ⊕ (Mm))} {q : Nat} (h : f_X11_live_J42 a0 l1 l3 l4 l5 l6 μ = some x)  : mm_L ((sm (fun (q : Int32 × Mm) => q.2) (fun (q : Mm) => q)) x) q = mm_L μ q := by
  have hi : mm_L μ q = mm_L μ q := rfl
  have hp : mm_P μ = mm_P μ := rfl
  have r_a0 : rch (mm_P μ) a0 [] a0 := rfl
  obtain ⟨v42, e42, h⟩ := bd h
  have h := Option.some.inj h
  subst h
  exact hi
theorem j_X11_live_J33 {a0 : Nat} {l1 : Int64} {l3 : Int32} {l4 : Int32} {l5 : Int32} {l6 : Int32} {μ : Mm} {x : ((Int32 × Mm) ⊕ (Mm))} {q : Nat} (h : f_X11_live_J33 a0 l1 l3 l4 l5 l6 μ = some x)  : mm_L ((sm (fun (q : Int32 × Mm) => q.2) (fun (q : Mm) => q)) x) q = mm_L μ q := by
  have hi : mm_L μ q = mm_L μ q := rfl
  have hp : mm_P μ = mm_P μ := rfl
  have r_a0 : rch (mm_P μ) a0 [] a0 := rfl
  obtain ⟨x39, e39, h⟩ := bd h
  have hi := (j_X11_byNight e39 ).trans hi
  have hp := (p_X11_byNight e39).trans hp
  exact (j_X11_live_J42 h ).trans hi
theorem j_X11_live_L7 {a0 : Nat} {l1 : Int64} {l3 : Int32} {l4 : Int32} {l5 : Int32} {s7 : Int32 × Mm} {x : ((Int32 × Mm) ⊕ (Mm))} {q : Nat} (h : f_X11_live_L7 a0 l1 l3 l4 l5 s7 = some x)  : mm_L (sm (fun (q : Int32 × Mm) => q.2) (fun (q : Mm) => q) x) q = mm_L ((fun (q : Int32 × Mm) => q.2) s7) q := by
  have hi : mm_L ((fun (q : Int32 × Mm) => q.2) s7) q = mm_L ((fun (q : Int32 × Mm) => q.2) s7) q := rfl
  have hp : mm_P ((fun (q : Int32 × Mm) => q.2) s7) = mm_P ((fun (q : Int32 × Mm) => q.2) s7) := rfl
  have r_a0 : rch (mm_P ((fun (q : Int32 × Mm) => q.2) s7)) a0 [] a0 := rfl
  rcases ite_e h with ⟨_, h⟩ | ⟨_, h⟩
  · have h := Option.some.inj h
    subst h
    exact hi
  · obtain ⟨x19, e19, h⟩ := bd h
    have hi := (j_X11_byDay e19 ).trans hi
    have hp := (p_X11_byDay e19).trans hp
    rcases ite_e h with ⟨_, h⟩ | ⟨_, h⟩
    · exact (j_X11_live_J33 h ).trans hi
    · rcases ite_e h with ⟨_, h⟩ | ⟨_, h⟩
      · exact (j_X11_live_J42 h ).trans hi
      · exact (j_X11_live_J33 h ).trans hi
theorem j_X11_live_W7 {a0 : Nat} {l1 : Int64} {l3 : Int32} {l4 : Int32} {l5 : Int32} {s7 : Int32 × Mm} {b : Mm} {q : Nat} (h : whl (f_X11_live_L7 a0 l1 l3 l4 l5) s7 = some b)  : mm_L ((fun (q : Mm) => q) b) q = mm_L ((fun (q : Int32 × Mm) => q.2) s7) q := by
  have key := whl_inv (P := fun s' => mm_L ((fun (q : Int32 × Mm) => q.2) s') q = mm_L ((fun (q : Int32 × Mm) => q.2) s7) q ∧ mm_P ((fun (q : Int32 × Mm) => q.2) s') = mm_P ((fun (q : Int32 × Mm) => q.2) s7)) (Q := fun b' => mm_L ((fun (q : Mm) => q) b') q = mm_L ((fun (q : Int32 × Mm) => q.2) s7) q) (fun s' x hs1 hx => ?_) ⟨rfl, rfl⟩ h
  · exact key
  · obtain ⟨h1, hP⟩ := hs1
    have k1 := (j_X11_live_L7 hx ).trans h1
    have k2 := (p_X11_live_L7 hx).trans hP
    cases x with
    | inl z => exact ⟨k1, k2⟩
    | inr z => exact k1
theorem j_X11_live {a0 : Nat} {l1 : Int64} {l3 : Int32} {l4 : Int32} {l5 : Int32} {μ : Mm} {x : Mm} {q : Nat} (h : f_X11_live a0 l1 l3 l4 l5 μ = some x)  : mm_L ((fun (q : Mm) => q) x) q = mm_L μ q := by
  have hi : mm_L μ q = mm_L μ q := rfl
  have hp : mm_P μ = mm_P μ := rfl
  have r_a0 : rch (mm_P μ) a0 [] a0 := rfl
  obtain ⟨_, h⟩ := ite_p h
  obtain ⟨x1, e1, h⟩ := bd h
  have hi := (j_X11_forget e1 ).trans hi
  have hp := (p_X11_forget e1).trans hp
  obtain ⟨b7, w7, h⟩ := bd h
  have hi := (j_X11_live_W7 w7 ).trans hi
  have hp := (p_X11_live_W7 w7).trans hp
  have h := Option.some.inj h
  subst h
  exact hi
theorem j_X11_comes_ {a0 : Nat} {l1 : Int32} {l2 : Int32} {l3 : Int32} {l4 : Int32} {μ : Mm} {x : (Int32 × Mm)} {q : Nat} (h : f_X11_comes_ a0 l1 l2 l3 l4 μ = some x)  : mm_L ((fun (q : (Int32 × Mm)) => q.2) x) q = mm_L μ q := by
  have hi : mm_L μ q = mm_L μ q := rfl
  have hp : mm_P μ = mm_P μ := rfl
  have r_a0 : rch (mm_P μ) a0 [] a0 := rfl
  obtain ⟨_, h⟩ := ite_p h
  obtain ⟨x2, e2, h⟩ := bd h
  rcases ite_e h with ⟨_, h⟩ | ⟨_, h⟩
  · have h := Option.some.inj h
    subst h
    exact hi
  · obtain ⟨x10, e10, h⟩ := bd h
    rcases ite_e h with ⟨_, h⟩ | ⟨_, h⟩
    · have h := Option.some.inj h
      subst h
      exact hi
    · obtain ⟨x17, e17, h⟩ := bd h
      rcases ite_e h with ⟨_, h⟩ | ⟨_, h⟩
      · have h := Option.some.inj h
        subst h
        exact hi
      · obtain ⟨x27, e27, h⟩ := bd h
        rcases ite_e h with ⟨_, h⟩ | ⟨_, h⟩
        · have h := Option.some.inj h
          subst h
          exact hi
        · obtain ⟨μ38, e38, h⟩ := bd h
          have hi := (kj_pfI e38).trans hi
          have hp := (kp_pfI e38).trans hp
          obtain ⟨μ43, e43, h⟩ := bd h
          have hi := (kj_pfI e43).trans hi
          have hp := (kp_pfI e43).trans hp
          obtain ⟨x48, e48, h⟩ := bd h
          have r_x48 := rch_f r_a0 e48 hp
          obtain ⟨x52, e52, h⟩ := bd h
          obtain ⟨x55, e55, h⟩ := bd h
          obtain ⟨x60, e60, h⟩ := bd h
          have hi := (j_X11_live e60 ).trans hi
          have hp := (p_X11_live e60).trans hp
          rcases ite_e h with ⟨_, h⟩ | ⟨_, h⟩
          · obtain ⟨x69, e69, h⟩ := bd h
            have h := Option.some.inj h
            subst h
            exact hi
          · rcases ite_e h with ⟨_, h⟩ | ⟨_, h⟩
            · obtain ⟨x82, e82, h⟩ := bd h
              have h := Option.some.inj h
              subst h
              exact hi
            · obtain ⟨x89, e89, h⟩ := bd h
              have h := Option.some.inj h
              subst h
              exact hi
theorem j_X11_end {a0 : Nat} {l1 : Int32} {μ : Mm} {x : (Int32 × Mm)} {q : Nat} (h : f_X11_end a0 l1 μ = some x)  : mm_L ((fun (q : (Int32 × Mm)) => q.2) x) q = mm_L μ q := by
  have hi : mm_L μ q = mm_L μ q := rfl
  have hp : mm_P μ = mm_P μ := rfl
  have r_a0 : rch (mm_P μ) a0 [] a0 := rfl
  obtain ⟨_, h⟩ := ite_p h
  rcases ite_e h with ⟨_, h⟩ | ⟨_, h⟩
  · have h := Option.some.inj h
    subst h
    exact hi
  · obtain ⟨x6, e6, h⟩ := bd h
    rcases ite_e h with ⟨_, h⟩ | ⟨_, h⟩
    · obtain ⟨μ16, e16, h⟩ := bd h
      have hi := (kj_pfI e16).trans hi
      have hp := (kp_pfI e16).trans hp
      have h := Option.some.inj h
      subst h
      exact hi
    · have h := Option.some.inj h
      subst h
      exact hi
theorem j_X11_feed_J115 {a0 : Nat} {μ : Mm} {x : (Int32 × Mm)} {q : Nat} (h : f_X11_feed_J115 a0 μ = some x)  : mm_L ((fun (q : (Int32 × Mm)) => q.2) x) q = mm_L μ q := by
  have hi : mm_L μ q = mm_L μ q := rfl
  have hp : mm_P μ = mm_P μ := rfl
  have r_a0 : rch (mm_P μ) a0 [] a0 := rfl
  obtain ⟨x116, e116, h⟩ := bd h
  have h := Option.some.inj h
  subst h
  exact hi
theorem j_X11_feed_J109 {a0 : Nat} {l1 : Int32} {l2 : Int32} {l3 : Int32} {l4 : Int32} {l5 : Int32} {l6 : Int32} {μ : Mm} {x : ((Int32 × Mm) ⊕ (Mm))} {q : Nat} (h : f_X11_feed_J109 a0 l1 l2 l3 l4 l5 l6 μ = some x)  : mm_L ((sm (fun (q : Int32 × Mm) => q.2) (fun (q : Mm) => q)) x) q = mm_L μ q := by
  have hi : mm_L μ q = mm_L μ q := rfl
  have hp : mm_P μ = mm_P μ := rfl
  have r_a0 : rch (mm_P μ) a0 [] a0 := rfl
  obtain ⟨v109, e109, h⟩ := bd h
  have h := Option.some.inj h
  subst h
  exact hi
theorem j_X11_feed_L73 {a0 : Nat} {l1 : Int32} {l2 : Int32} {l3 : Int32} {l4 : Int32} {l5 : Int32} {l6 : Int32} {l7 : Int32} {s73 : Int32 × Mm} {x : ((Int32 × Mm) ⊕ (Mm))} {q : Nat} (h : f_X11_feed_L73 a0 l1 l2 l3 l4 l5 l6 l7 s73 = some x)  : mm_L (sm (fun (q : Int32 × Mm) => q.2) (fun (q : Mm) => q) x) q = mm_L ((fun (q : Int32 × Mm) => q.2) s73) q := by
  have hi : mm_L ((fun (q : Int32 × Mm) => q.2) s73) q = mm_L ((fun (q : Int32 × Mm) => q.2) s73) q := rfl
  have hp : mm_P ((fun (q : Int32 × Mm) => q.2) s73) = mm_P ((fun (q : Int32 × Mm) => q.2) s73) := rfl
  have r_a0 : rch (mm_P ((fun (q : Int32 × Mm) => q.2) s73)) a0 [] a0 := rfl
  rcases ite_e h with ⟨_, h⟩ | ⟨_, h⟩
  · have h := Option.some.inj h
    subst h
    exact hi
  · obtain ⟨x79, e79, h⟩ := bd h
    have r_x79 := rch_f r_a0 e79 hp
    obtain ⟨x83, e83, h⟩ := bd h
    obtain ⟨μ92, e92, h⟩ := bd h
    have hi := (kj_paB e92).trans hi
    have hp := (kp_paB e92).trans hp
    obtain ⟨x95, e95, h⟩ := bd h
    obtain ⟨μ100, e100, h⟩ := bd h
    have hi := (kj_pfI e100).trans hi
    have hp := (kp_pfI e100).trans hp
    obtain ⟨v103, e103, h⟩ := bd h
    have h := Option.some.inj h
    subst h
    exact hi
theorem j_X11_feed_W73 {a0 : Nat} {l1 : Int32} {l2 : Int32} {l3 : Int32} {l4 : Int32} {l5 : Int32} {l6 : Int32} {l7 : Int32} {s73 : Int32 × Mm} {b : Mm} {q : Nat} (h : whl (f_X11_feed_L73 a0 l1 l2 l3 l4 l5 l6 l7) s73 = some b)  : mm_L ((fun (q : Mm) => q) b) q = mm_L ((fun (q : Int32 × Mm) => q.2) s73) q := by
  have key := whl_inv (P := fun s' => mm_L ((fun (q : Int32 × Mm) => q.2) s') q = mm_L ((fun (q : Int32 × Mm) => q.2) s73) q ∧ mm_P ((fun (q : Int32 × Mm) => q.2) s') = mm_P ((fun (q : Int32 × Mm) => q.2) s73)) (Q := fun b' => mm_L ((fun (q : Mm) => q) b') q = mm_L ((fun (q : Int32 × Mm) => q.2) s73) q) (fun s' x hs1 hx => ?_) ⟨rfl, rfl⟩ h
  · exact key
  · obtain ⟨h1, hP⟩ := hs1
    have k1 := (j_X11_feed_L73 hx ).trans h1
    have k2 := (p_X11_feed_L73 hx).trans hP
    cases x with
    | inl z => exact ⟨k1, k2⟩
    | inr z => exact k1
theorem j_X11_feed_J67 {a0 : Nat} {l1 : Int32} {l2 : Int32} {l3 : Int32} {l4 : Int32} {l5 : Int32} {l6 : Int32} {k0 : Int32} {μ : Mm} {x : ((Int32 × Mm) ⊕ (Mm))} {q : Nat} (h : f_X11_feed_J67 a0 l1 l2 l3 l4 l5 l6 k0 μ = some x)  : mm_L ((sm (fun (q : Int32 × Mm) => q.2) (fun (q : Mm) => q)) x) q = mm_L μ q := by
  have hi : mm_L μ q = mm_L μ q := rfl
  have hp : mm_P μ = mm_P μ := rfl
  have r_a0 : rch (mm_P μ) a0 [] a0 := rfl
  obtain ⟨b73, w73, h⟩ := bd h
  have hi := (j_X11_feed_W73 w73 ).trans hi
  have hp := (p_X11_feed_W73 w73).trans hp
  exact (j_X11_feed_J109 h ).trans hi
theorem j_X11_feed_L19 {a0 : Nat} {l1 : Int32} {l2 : Int32} {l3 : Int32} {l4 : Int32} {l5 : Int32} {s19 : Int32 × Mm} {x : ((Int32 × Mm) ⊕ (Mm))} {q : Nat} (h : f_X11_feed_L19 a0 l1 l2 l3 l4 l5 s19 = some x)  : mm_L (sm (fun (q : Int32 × Mm) => q.2) (fun (q : Mm) => q) x) q = mm_L ((fun (q : Int32 × Mm) => q.2) s19) q := by
  have hi : mm_L ((fun (q : Int32 × Mm) => q.2) s19) q = mm_L ((fun (q : Int32 × Mm) => q.2) s19) q := rfl
  have hp : mm_P ((fun (q : Int32 × Mm) => q.2) s19) = mm_P ((fun (q : Int32 × Mm) => q.2) s19) := rfl
  have r_a0 : rch (mm_P ((fun (q : Int32 × Mm) => q.2) s19)) a0 [] a0 := rfl
  rcases ite_e h with ⟨_, h⟩ | ⟨_, h⟩
  · have h := Option.some.inj h
    subst h
    exact hi
  · rcases ite_e h with ⟨_, h⟩ | ⟨_, h⟩
    · exact (j_X11_feed_J67 h ).trans hi
    · rcases ite_e h with ⟨_, h⟩ | ⟨_, h⟩
      · exact (j_X11_feed_J67 h ).trans hi
      · rcases ite_e h with ⟨_, h⟩ | ⟨_, h⟩
        · exact (j_X11_feed_J67 h ).trans hi
        · rcases ite_e h with ⟨_, h⟩ | ⟨_, h⟩
          · exact (j_X11_feed_J67 h ).trans hi
          · exact (j_X11_feed_J67 h ).trans hi
theorem j_X11_feed_W19 {a0 : Nat} {l1 : Int32} {l2 : Int32} {l3 : Int32} {l4 : Int32} {l5 : Int32} {s19 : Int32 × Mm} {b : Mm} {q : Nat} (h : whl (f_X11_feed_L19 a0 l1 l2 l3 l4 l5) s19 = some b)  : mm_L ((fun (q : Mm) => q) b) q = mm_L ((fun (q : Int32 × Mm) => q.2) s19) q := by
  have key := whl_inv (P := fun s' => mm_L ((fun (q : Int32 × Mm) => q.2) s') q = mm_L ((fun (q : Int32 × Mm) => q.2) s19) q ∧ mm_P ((fun (q : Int32 × Mm) => q.2) s') = mm_P ((fun (q : Int32 × Mm) => q.2) s19)) (Q := fun b' => mm_L ((fun (q : Mm) => q) b') q = mm_L ((fun (q : Int32 × Mm) => q.2) s19) q) (fun s' x hs1 hx => ?_) ⟨rfl, rfl⟩ h
  · exact key
  · obtain ⟨h1, hP⟩ := hs1
    have k1 := (j_X11_feed_L19 hx ).trans h1
    have k2 := (p_X11_feed_L19 hx).trans hP
    cases x with
    | inl z => exact ⟨k1, k2⟩
    | inr z => exact k1
theorem j_X11_feed {a0 : Nat} {l1 : Int32} {l2 : Int32} {l3 : Int32} {l4 : Int32} {l5 : Int32} {μ : Mm} {x : (Int32 × Mm)} {q : Nat} (h : f_X11_feed a0 l1 l2 l3 l4 l5 μ = some x)  : mm_L ((fun (q : (Int32 × Mm)) => q.2) x) q = mm_L μ q := by
  have hi : mm_L μ q = mm_L μ q := rfl
  have hp : mm_P μ = mm_P μ := rfl
  have r_a0 : rch (mm_P μ) a0 [] a0 := rfl
  obtain ⟨_, h⟩ := ite_p h
  obtain ⟨x1, e1, h⟩ := bd h
  rcases ite_e h with ⟨_, h⟩ | ⟨_, h⟩
  · obtain ⟨b19, w19, h⟩ := bd h
    have hi := (j_X11_feed_W19 w19 ).trans hi
    have hp := (p_X11_feed_W19 w19).trans hp
    exact (j_X11_feed_J115 h ).trans hi
  · have h := Option.some.inj h
    subst h
    exact hi
theorem j_X11_fit {a0 : Nat} {l1 : Int32} {l2 : Int32} {μ : Mm} {x : (Int32 × Mm)} {q : Nat} (h : f_X11_fit a0 l1 l2 μ = some x) (c_a0 : ∀ p ∈ ([[57]] : List (List Nat)), ¬ rch (mm_P μ) a0 p q) : mm_L ((fun (q : (Int32 × Mm)) => q.2) x) q = mm_L μ q := by
  have hi : mm_L μ q = mm_L μ q := rfl
  have hp : mm_P μ = mm_P μ := rfl
  have r_a0 : rch (mm_P μ) a0 [] a0 := rfl
  obtain ⟨_, h⟩ := ite_p h
  obtain ⟨x1, e1, h⟩ := bd h
  rcases ite_e h with ⟨_, h⟩ | ⟨_, h⟩
  · have h := Option.some.inj h
    subst h
    exact hi
  · obtain ⟨x10, e10, h⟩ := bd h
    rcases ite_e h with ⟨_, h⟩ | ⟨_, h⟩
    · have h := Option.some.inj h
      subst h
      exact hi
    · obtain ⟨x21, e21, h⟩ := bd h
      have hi := (j_X11_findFits e21 (rch_sub c_a0 r_a0 (by decide) hp)).trans hi
      have hp := (p_X11_findFits e21).trans hp
      rcases ite_e h with ⟨_, h⟩ | ⟨_, h⟩
      · have h := Option.some.inj h
        subst h
        exact hi
      · obtain ⟨b37, w37, h⟩ := bd h
        have h := Option.some.inj h
        subst h
        exact hi
theorem j_X11_draw {a0 : Nat} {l1 : Int32} {μ : Mm} {x : (Int32 × Mm)} {q : Nat} (h : f_X11_draw a0 l1 μ = some x) (c_a0 : ∀ p ∈ ([[]] : List (List Nat)), ¬ rch (mm_P μ) a0 p q) : mm_L ((fun (q : (Int32 × Mm)) => q.2) x) q = mm_L μ q := by
  have hi : mm_L μ q = mm_L μ q := rfl
  have hp : mm_P μ = mm_P μ := rfl
  have r_a0 : rch (mm_P μ) a0 [] a0 := rfl
  obtain ⟨_, h⟩ := ite_p h
  obtain ⟨x5, e5, h⟩ := bd h
  obtain ⟨μ17, e17, h⟩ := bd h
  have hi := (kj_pfL e17 (rch_ne c_a0 (by decide) r_a0)).trans hi
  have hp := (kp_pfL e17).trans hp
  obtain ⟨x21, e21, h⟩ := bd h
  obtain ⟨_, h⟩ := ite_n h
  have h := Option.some.inj h
  subst h
  exact hi
theorem j_X11_runDay {a0 : Nat} {μ : Mm} {x : Mm} {q : Nat} (h : f_X11_runDay a0 μ = some x) (c_a0 : ∀ p ∈ ([[]] : List (List Nat)), ¬ rch (mm_P μ) a0 p q) : mm_L ((fun (q : Mm) => q) x) q = mm_L μ q := by
  have hi : mm_L μ q = mm_L μ q := rfl
  have hp : mm_P μ = mm_P μ := rfl
  have r_a0 : rch (mm_P μ) a0 [] a0 := rfl
  obtain ⟨_, h⟩ := ite_p h
  obtain ⟨x1, e1, h⟩ := bd h
  obtain ⟨x5, e5, h⟩ := bd h
  have r_x5 := rch_f r_a0 e5 hp
  obtain ⟨x9, e9, h⟩ := bd h
  obtain ⟨_, h⟩ := ite_n h
  obtain ⟨v11, e11, h⟩ := bd h
  obtain ⟨x14, e14, h⟩ := bd h
  have r_x14 := rch_f r_a0 e14 hp
  obtain ⟨x18, e18, h⟩ := bd h
  obtain ⟨x21, e21, h⟩ := bd h
  obtain ⟨x25, e25, h⟩ := bd h
  have hi := (j_X11_byDay e25 ).trans hi
  have hp := (p_X11_byDay e25).trans hp
  obtain ⟨x30, e30, h⟩ := bd h
  have r_x30 := rch_f r_a0 e30 hp
  obtain ⟨x34, e34, h⟩ := bd h
  obtain ⟨x37, e37, h⟩ := bd h
  obtain ⟨x41, e41, h⟩ := bd h
  have hi := (j_X11_byNight e41 ).trans hi
  have hp := (p_X11_byNight e41).trans hp
  obtain ⟨x46, e46, h⟩ := bd h
  obtain ⟨μ51, e51, h⟩ := bd h
  have hi := (kj_pfI e51).trans hi
  have hp := (kp_pfI e51).trans hp
  obtain ⟨x58, e58, h⟩ := bd h
  have r_x58 := rch_f r_a0 e58 hp
  obtain ⟨x62, e62, h⟩ := bd h
  rcases ite_e h with ⟨_, h⟩ | ⟨_, h⟩
  · obtain ⟨x69, e69, h⟩ := bd h
    obtain ⟨x72, e72, h⟩ := bd h
    have hi := (j_X11_draw e72 (rch_sub c_a0 r_a0 (by decide) hp)).trans hi
    have hp := (p_X11_draw e72).trans hp
    obtain ⟨μ75, e75, h⟩ := bd h
    have hi := (kj_pfI e75).trans hi
    have hp := (kp_pfI e75).trans hp
    have h := Option.some.inj h
    subst h
    exact hi
  · have h := Option.some.inj h
    subst h
    exact hi
theorem j_X11_go_J93 {a0 : Nat} {μ : Mm} {x : (Int32 × Mm)} {q : Nat} (h : f_X11_go_J93 a0 μ = some x)  : mm_L ((fun (q : (Int32 × Mm)) => q.2) x) q = mm_L μ q := by
  have hi : mm_L μ q = mm_L μ q := rfl
  have hp : mm_P μ = mm_P μ := rfl
  have r_a0 : rch (mm_P μ) a0 [] a0 := rfl
  obtain ⟨x94, e94, h⟩ := bd h
  have h := Option.some.inj h
  subst h
  exact hi
theorem j_X11_go_L69 {a0 : Nat} {s69 : Int32 × Mm} {x : ((Int32 × Mm) ⊕ (Mm))} {q : Nat} (h : f_X11_go_L69 a0 s69 = some x)  : mm_L (sm (fun (q : Int32 × Mm) => q.2) (fun (q : Mm) => q) x) q = mm_L ((fun (q : Int32 × Mm) => q.2) s69) q := by
  have hi : mm_L ((fun (q : Int32 × Mm) => q.2) s69) q = mm_L ((fun (q : Int32 × Mm) => q.2) s69) q := rfl
  have hp : mm_P ((fun (q : Int32 × Mm) => q.2) s69) = mm_P ((fun (q : Int32 × Mm) => q.2) s69) := rfl
  have r_a0 : rch (mm_P ((fun (q : Int32 × Mm) => q.2) s69)) a0 [] a0 := rfl
  rcases ite_e h with ⟨_, h⟩ | ⟨_, h⟩
  · have h := Option.some.inj h
    subst h
    exact hi
  · obtain ⟨x76, e76, h⟩ := bd h
    have r_x76 := rch_f r_a0 e76 hp
    obtain ⟨x81, e81, h⟩ := bd h
    have r_x81 := rch_f r_a0 e81 hp
    obtain ⟨x85, e85, h⟩ := bd h
    obtain ⟨μ86, e86, h⟩ := bd h
    have hi := (kj_paI e86).trans hi
    have hp := (kp_paI e86).trans hp
    obtain ⟨v87, e87, h⟩ := bd h
    have h := Option.some.inj h
    subst h
    exact hi
theorem j_X11_go_W69 {a0 : Nat} {s69 : Int32 × Mm} {b : Mm} {q : Nat} (h : whl (f_X11_go_L69 a0) s69 = some b)  : mm_L ((fun (q : Mm) => q) b) q = mm_L ((fun (q : Int32 × Mm) => q.2) s69) q := by
  have key := whl_inv (P := fun s' => mm_L ((fun (q : Int32 × Mm) => q.2) s') q = mm_L ((fun (q : Int32 × Mm) => q.2) s69) q ∧ mm_P ((fun (q : Int32 × Mm) => q.2) s') = mm_P ((fun (q : Int32 × Mm) => q.2) s69)) (Q := fun b' => mm_L ((fun (q : Mm) => q) b') q = mm_L ((fun (q : Int32 × Mm) => q.2) s69) q) (fun s' x hs1 hx => ?_) ⟨rfl, rfl⟩ h
  · exact key
  · obtain ⟨h1, hP⟩ := hs1
    have k1 := (j_X11_go_L69 hx ).trans h1
    have k2 := (p_X11_go_L69 hx).trans hP
    cases x with
    | inl z => exact ⟨k1, k2⟩
    | inr z => exact k1
theorem j_X11_go_J67 {a0 : Nat} {μ : Mm} {x : (Int32 × Mm)} {q : Nat} (h : f_X11_go_J67 a0 μ = some x)  : mm_L ((fun (q : (Int32 × Mm)) => q.2) x) q = mm_L μ q := by
  have hi : mm_L μ q = mm_L μ q := rfl
  have hp : mm_P μ = mm_P μ := rfl
  have r_a0 : rch (mm_P μ) a0 [] a0 := rfl
  obtain ⟨b69, w69, h⟩ := bd h
  have hi := (j_X11_go_W69 w69 ).trans hi
  have hp := (p_X11_go_W69 w69).trans hp
  exact (j_X11_go_J93 h ).trans hi
theorem j_X11_go_L52 {a0 : Nat} {l1 : Int32} {s52 : Int32 × Mm} {x : ((Int32 × Mm) ⊕ (Mm))} {q : Nat} (h : f_X11_go_L52 a0 l1 s52 = some x) (c_a0 : ∀ p ∈ ([[]] : List (List Nat)), ¬ rch (mm_P ((fun (q : Int32 × Mm) => q.2) s52)) a0 p q) : mm_L (sm (fun (q : Int32 × Mm) => q.2) (fun (q : Mm) => q) x) q = mm_L ((fun (q : Int32 × Mm) => q.2) s52) q := by
  have hi : mm_L ((fun (q : Int32 × Mm) => q.2) s52) q = mm_L ((fun (q : Int32 × Mm) => q.2) s52) q := rfl
  have hp : mm_P ((fun (q : Int32 × Mm) => q.2) s52) = mm_P ((fun (q : Int32 × Mm) => q.2) s52) := rfl
  have r_a0 : rch (mm_P ((fun (q : Int32 × Mm) => q.2) s52)) a0 [] a0 := rfl
  rcases ite_e h with ⟨_, h⟩ | ⟨_, h⟩
  · have h := Option.some.inj h
    subst h
    exact hi
  · obtain ⟨x58, e58, h⟩ := bd h
    have hi := (j_X11_runDay e58 (rch_sub c_a0 r_a0 (by decide) hp)).trans hi
    have hp := (p_X11_runDay e58).trans hp
    obtain ⟨v61, e61, h⟩ := bd h
    have h := Option.some.inj h
    subst h
    exact hi
theorem j_X11_go_W52 {a0 : Nat} {l1 : Int32} {s52 : Int32 × Mm} {b : Mm} {q : Nat} (h : whl (f_X11_go_L52 a0 l1) s52 = some b) (c_a0 : ∀ p ∈ ([[]] : List (List Nat)), ¬ rch (mm_P ((fun (q : Int32 × Mm) => q.2) s52)) a0 p q) : mm_L ((fun (q : Mm) => q) b) q = mm_L ((fun (q : Int32 × Mm) => q.2) s52) q := by
  have key := whl_inv (P := fun s' => mm_L ((fun (q : Int32 × Mm) => q.2) s') q = mm_L ((fun (q : Int32 × Mm) => q.2) s52) q ∧ mm_P ((fun (q : Int32 × Mm) => q.2) s') = mm_P ((fun (q : Int32 × Mm) => q.2) s52)) (Q := fun b' => mm_L ((fun (q : Mm) => q) b') q = mm_L ((fun (q : Int32 × Mm) => q.2) s52) q) (fun s' x hs1 hx => ?_) ⟨rfl, rfl⟩ h
  · exact key
  · obtain ⟨h1, hP⟩ := hs1
    have k1 := (j_X11_go_L52 hx (fun p hp hr => c_a0 p hp (by rw [← hP]; exact hr))).trans h1
    have k2 := (p_X11_go_L52 hx).trans hP
    cases x with
    | inl z => exact ⟨k1, k2⟩
    | inr z => exact k1
theorem j_X11_go_J50 {a0 : Nat} {l1 : Int32} {μ : Mm} {x : (Int32 × Mm)} {q : Nat} (h : f_X11_go_J50 a0 l1 μ = some x) (c_a0 : ∀ p ∈ ([[]] : List (List Nat)), ¬ rch (mm_P μ) a0 p q) : mm_L ((fun (q : (Int32 × Mm)) => q.2) x) q = mm_L μ q := by
  have hi : mm_L μ q = mm_L μ q := rfl
  have hp : mm_P μ = mm_P μ := rfl
  have r_a0 : rch (mm_P μ) a0 [] a0 := rfl
  obtain ⟨b52, w52, h⟩ := bd h
  have hi := (j_X11_go_W52 w52 (rch_sub c_a0 r_a0 (by decide) hp)).trans hi
  have hp := (p_X11_go_W52 w52).trans hp
  exact (j_X11_go_J67 h ).trans hi
theorem j_X11_go_L26 {a0 : Nat} {l1 : Int32} {s26 : Int32 × Mm} {x : ((Int32 × Mm) ⊕ (Mm))} {q : Nat} (h : f_X11_go_L26 a0 l1 s26 = some x)  : mm_L (sm (fun (q : Int32 × Mm) => q.2) (fun (q : Mm) => q) x) q = mm_L ((fun (q : Int32 × Mm) => q.2) s26) q := by
  have hi : mm_L ((fun (q : Int32 × Mm) => q.2) s26) q = mm_L ((fun (q : Int32 × Mm) => q.2) s26) q := rfl
  have hp : mm_P ((fun (q : Int32 × Mm) => q.2) s26) = mm_P ((fun (q : Int32 × Mm) => q.2) s26) := rfl
  have r_a0 : rch (mm_P ((fun (q : Int32 × Mm) => q.2) s26)) a0 [] a0 := rfl
  rcases ite_e h with ⟨_, h⟩ | ⟨_, h⟩
  · have h := Option.some.inj h
    subst h
    exact hi
  · obtain ⟨x33, e33, h⟩ := bd h
    have r_x33 := rch_f r_a0 e33 hp
    obtain ⟨x38, e38, h⟩ := bd h
    have r_x38 := rch_f r_a0 e38 hp
    obtain ⟨x42, e42, h⟩ := bd h
    obtain ⟨μ43, e43, h⟩ := bd h
    have hi := (kj_paI e43).trans hi
    have hp := (kp_paI e43).trans hp
    obtain ⟨v44, e44, h⟩ := bd h
    have h := Option.some.inj h
    subst h
    exact hi
theorem j_X11_go_W26 {a0 : Nat} {l1 : Int32} {s26 : Int32 × Mm} {b : Mm} {q : Nat} (h : whl (f_X11_go_L26 a0 l1) s26 = some b)  : mm_L ((fun (q : Mm) => q) b) q = mm_L ((fun (q : Int32 × Mm) => q.2) s26) q := by
  have key := whl_inv (P := fun s' => mm_L ((fun (q : Int32 × Mm) => q.2) s') q = mm_L ((fun (q : Int32 × Mm) => q.2) s26) q ∧ mm_P ((fun (q : Int32 × Mm) => q.2) s') = mm_P ((fun (q : Int32 × Mm) => q.2) s26)) (Q := fun b' => mm_L ((fun (q : Mm) => q) b') q = mm_L ((fun (q : Int32 × Mm) => q.2) s26) q) (fun s' x hs1 hx => ?_) ⟨rfl, rfl⟩ h
  · exact key
  · obtain ⟨h1, hP⟩ := hs1
    have k1 := (j_X11_go_L26 hx ).trans h1
    have k2 := (p_X11_go_L26 hx).trans hP
    cases x with
    | inl z => exact ⟨k1, k2⟩
    | inr z => exact k1
theorem j_X11_go {a0 : Nat} {l1 : Int32} {μ : Mm} {x : (Int32 × Mm)} {q : Nat} (h : f_X11_go a0 l1 μ = some x) (c_a0 : ∀ p ∈ ([[]] : List (List Nat)), ¬ rch (mm_P μ) a0 p q) : mm_L ((fun (q : (Int32 × Mm)) => q.2) x) q = mm_L μ q := by
  have hi : mm_L μ q = mm_L μ q := rfl
  have hp : mm_P μ = mm_P μ := rfl
  have r_a0 : rch (mm_P μ) a0 [] a0 := rfl
  obtain ⟨_, h⟩ := ite_p h
  obtain ⟨x5, e5, h⟩ := bd h
  rcases ite_e h with ⟨_, h⟩ | ⟨_, h⟩
  · have h := Option.some.inj h
    subst h
    exact hi
  · obtain ⟨x15, e15, h⟩ := bd h
    rcases ite_e h with ⟨_, h⟩ | ⟨_, h⟩
    · have h := Option.some.inj h
      subst h
      exact hi
    · obtain ⟨b26, w26, h⟩ := bd h
      have hi := (j_X11_go_W26 w26 ).trans hi
      have hp := (p_X11_go_W26 w26).trans hp
      exact (j_X11_go_J50 h (rch_sub c_a0 r_a0 (by decide) hp)).trans hi
theorem j_X11_begin_J67 {a0 : Nat} {μ : Mm} {x : Mm} {q : Nat} (h : f_X11_begin_J67 a0 μ = some x)  : mm_L ((fun (q : Mm) => q) x) q = mm_L μ q := by
  have hi : mm_L μ q = mm_L μ q := rfl
  have hp : mm_P μ = mm_P μ := rfl
  have r_a0 : rch (mm_P μ) a0 [] a0 := rfl
  obtain ⟨μ69, e69, h⟩ := bd h
  have hi := (kj_pfI e69).trans hi
  have hp := (kp_pfI e69).trans hp
  have h := Option.some.inj h
  subst h
  exact hi
theorem j_X11_begin_L35 {a0 : Nat} {s35 : Int32 × Mm} {x : ((Int32 × Mm) ⊕ (Mm))} {q : Nat} (h : f_X11_begin_L35 a0 s35 = some x)  : mm_L (sm (fun (q : Int32 × Mm) => q.2) (fun (q : Mm) => q) x) q = mm_L ((fun (q : Int32 × Mm) => q.2) s35) q := by
  have hi : mm_L ((fun (q : Int32 × Mm) => q.2) s35) q = mm_L ((fun (q : Int32 × Mm) => q.2) s35) q := rfl
  have hp : mm_P ((fun (q : Int32 × Mm) => q.2) s35) = mm_P ((fun (q : Int32 × Mm) => q.2) s35) := rfl
  have r_a0 : rch (mm_P ((fun (q : Int32 × Mm) => q.2) s35)) a0 [] a0 := rfl
  rcases ite_e h with ⟨_, h⟩ | ⟨_, h⟩
  · have h := Option.some.inj h
    subst h
    exact hi
  · obtain ⟨x42, e42, h⟩ := bd h
    have r_x42 := rch_f r_a0 e42 hp
    obtain ⟨μ50, e50, h⟩ := bd h
    have hi := (kj_paI e50).trans hi
    have hp := (kp_paI e50).trans hp
    obtain ⟨x52, e52, h⟩ := bd h
    have r_x52 := rch_f r_a0 e52 hp
    obtain ⟨μ60, e60, h⟩ := bd h
    have hi := (kj_paI e60).trans hi
    have hp := (kp_paI e60).trans hp
    obtain ⟨v61, e61, h⟩ := bd h
    have h := Option.some.inj h
    subst h
    exact hi
theorem j_X11_begin_W35 {a0 : Nat} {s35 : Int32 × Mm} {b : Mm} {q : Nat} (h : whl (f_X11_begin_L35 a0) s35 = some b)  : mm_L ((fun (q : Mm) => q) b) q = mm_L ((fun (q : Int32 × Mm) => q.2) s35) q := by
  have key := whl_inv (P := fun s' => mm_L ((fun (q : Int32 × Mm) => q.2) s') q = mm_L ((fun (q : Int32 × Mm) => q.2) s35) q ∧ mm_P ((fun (q : Int32 × Mm) => q.2) s') = mm_P ((fun (q : Int32 × Mm) => q.2) s35)) (Q := fun b' => mm_L ((fun (q : Mm) => q) b') q = mm_L ((fun (q : Int32 × Mm) => q.2) s35) q) (fun s' x hs1 hx => ?_) ⟨rfl, rfl⟩ h
  · exact key
  · obtain ⟨h1, hP⟩ := hs1
    have k1 := (j_X11_begin_L35 hx ).trans h1
    have k2 := (p_X11_begin_L35 hx).trans hP
    cases x with
    | inl z => exact ⟨k1, k2⟩
    | inr z => exact k1
theorem j_X11_begin_J24 {a0 : Nat} {μ : Mm} {x : Mm} {q : Nat} (h : f_X11_begin_J24 a0 μ = some x)  : mm_L ((fun (q : Mm) => q) x) q = mm_L μ q := by
  have hi : mm_L μ q = mm_L μ q := rfl
  have hp : mm_P μ = mm_P μ := rfl
  have r_a0 : rch (mm_P μ) a0 [] a0 := rfl
  obtain ⟨x25, e25, h⟩ := bd h
  have r_x25 := rch_f r_a0 e25 hp
  obtain ⟨μ32, e32, h⟩ := bd h
  have hi := (kj_paI e32).trans hi
  have hp := (kp_paI e32).trans hp
  obtain ⟨b35, w35, h⟩ := bd h
  have hi := (j_X11_begin_W35 w35 ).trans hi
  have hp := (p_X11_begin_W35 w35).trans hp
  exact (j_X11_begin_J67 h ).trans hi
theorem j_X11_begin_L2 {a0 : Nat} {s2 : Int32 × Mm} {x : ((Int32 × Mm) ⊕ (Mm))} {q : Nat} (h : f_X11_begin_L2 a0 s2 = some x)  : mm_L (sm (fun (q : Int32 × Mm) => q.2) (fun (q : Mm) => q) x) q = mm_L ((fun (q : Int32 × Mm) => q.2) s2) q := by
  have hi : mm_L ((fun (q : Int32 × Mm) => q.2) s2) q = mm_L ((fun (q : Int32 × Mm) => q.2) s2) q := rfl
  have hp : mm_P ((fun (q : Int32 × Mm) => q.2) s2) = mm_P ((fun (q : Int32 × Mm) => q.2) s2) := rfl
  have r_a0 : rch (mm_P ((fun (q : Int32 × Mm) => q.2) s2)) a0 [] a0 := rfl
  rcases ite_e h with ⟨_, h⟩ | ⟨_, h⟩
  · have h := Option.some.inj h
    subst h
    exact hi
  · obtain ⟨x9, e9, h⟩ := bd h
    have r_x9 := rch_f r_a0 e9 hp
    obtain ⟨μ17, e17, h⟩ := bd h
    have hi := (kj_paI e17).trans hi
    have hp := (kp_paI e17).trans hp
    obtain ⟨v18, e18, h⟩ := bd h
    have h := Option.some.inj h
    subst h
    exact hi
theorem j_X11_begin_W2 {a0 : Nat} {s2 : Int32 × Mm} {b : Mm} {q : Nat} (h : whl (f_X11_begin_L2 a0) s2 = some b)  : mm_L ((fun (q : Mm) => q) b) q = mm_L ((fun (q : Int32 × Mm) => q.2) s2) q := by
  have key := whl_inv (P := fun s' => mm_L ((fun (q : Int32 × Mm) => q.2) s') q = mm_L ((fun (q : Int32 × Mm) => q.2) s2) q ∧ mm_P ((fun (q : Int32 × Mm) => q.2) s') = mm_P ((fun (q : Int32 × Mm) => q.2) s2)) (Q := fun b' => mm_L ((fun (q : Mm) => q) b') q = mm_L ((fun (q : Int32 × Mm) => q.2) s2) q) (fun s' x hs1 hx => ?_) ⟨rfl, rfl⟩ h
  · exact key
  · obtain ⟨h1, hP⟩ := hs1
    have k1 := (j_X11_begin_L2 hx ).trans h1
    have k2 := (p_X11_begin_L2 hx).trans hP
    cases x with
    | inl z => exact ⟨k1, k2⟩
    | inr z => exact k1
theorem j_X11_begin {a0 : Nat} {μ : Mm} {x : Mm} {q : Nat} (h : f_X11_begin a0 μ = some x)  : mm_L ((fun (q : Mm) => q) x) q = mm_L μ q := by
  have hi : mm_L μ q = mm_L μ q := rfl
  have hp : mm_P μ = mm_P μ := rfl
  have r_a0 : rch (mm_P μ) a0 [] a0 := rfl
  obtain ⟨_, h⟩ := ite_p h
  obtain ⟨b2, w2, h⟩ := bd h
  have hi := (j_X11_begin_W2 w2 ).trans hi
  have hp := (p_X11_begin_W2 w2).trans hp
  exact (j_X11_begin_J24 h ).trans hi
theorem j_X11_comes_L2 {l0 : Nat} {l1 : Int32} {s2 : Int32 × Mm} {x : ((Int32 × Mm) ⊕ (Mm))} {q : Nat} (h : f_X11_comes_L2 l0 l1 s2 = some x)  : mm_L (sm (fun (q : Int32 × Mm) => q.2) (fun (q : Mm) => q) x) q = mm_L ((fun (q : Int32 × Mm) => q.2) s2) q := by
  have hi : mm_L ((fun (q : Int32 × Mm) => q.2) s2) q = mm_L ((fun (q : Int32 × Mm) => q.2) s2) q := rfl
  have hp : mm_P ((fun (q : Int32 × Mm) => q.2) s2) = mm_P ((fun (q : Int32 × Mm) => q.2) s2) := rfl
  have r_l0 : rch (mm_P ((fun (q : Int32 × Mm) => q.2) s2)) l0 [] l0 := rfl
  rcases ite_e h with ⟨_, h⟩ | ⟨_, h⟩
  · have h := Option.some.inj h
    subst h
    exact hi
  · obtain ⟨x13, e13, h⟩ := bd h
    obtain ⟨μ14, e14, h⟩ := bd h
    have hi := (kj_paI e14).trans hi
    have hp := (kp_paI e14).trans hp
    obtain ⟨v15, e15, h⟩ := bd h
    have h := Option.some.inj h
    subst h
    exact hi
theorem j_X11_comes_W2 {l0 : Nat} {l1 : Int32} {s2 : Int32 × Mm} {b : Mm} {q : Nat} (h : whl (f_X11_comes_L2 l0 l1) s2 = some b)  : mm_L ((fun (q : Mm) => q) b) q = mm_L ((fun (q : Int32 × Mm) => q.2) s2) q := by
  have key := whl_inv (P := fun s' => mm_L ((fun (q : Int32 × Mm) => q.2) s') q = mm_L ((fun (q : Int32 × Mm) => q.2) s2) q ∧ mm_P ((fun (q : Int32 × Mm) => q.2) s') = mm_P ((fun (q : Int32 × Mm) => q.2) s2)) (Q := fun b' => mm_L ((fun (q : Mm) => q) b') q = mm_L ((fun (q : Int32 × Mm) => q.2) s2) q) (fun s' x hs1 hx => ?_) ⟨rfl, rfl⟩ h
  · exact key
  · obtain ⟨h1, hP⟩ := hs1
    have k1 := (j_X11_comes_L2 hx ).trans h1
    have k2 := (p_X11_comes_L2 hx).trans hP
    cases x with
    | inl z => exact ⟨k1, k2⟩
    | inr z => exact k1
theorem j_X11_comes {l0 : Nat} {l1 : Int32} {μ : Mm} {x : Mm} {q : Nat} (h : f_X11_comes l0 l1 μ = some x)  : mm_L ((fun (q : Mm) => q) x) q = mm_L μ q := by
  have hi : mm_L μ q = mm_L μ q := rfl
  have hp : mm_P μ = mm_P μ := rfl
  have r_l0 : rch (mm_P μ) l0 [] l0 := rfl
  obtain ⟨b2, w2, h⟩ := bd h
  have hi := (j_X11_comes_W2 w2 ).trans hi
  have hp := (p_X11_comes_W2 w2).trans hp
  have h := Option.some.inj h
  subst h
  exact hi
theorem j_X11_makeTurnings_J151 {q : Nat} {self : Nat → Int32 → Int32 → Int64 → Mm → Option Mm} (hs : ∀ (a0 : Nat) (l1 : Int32) (l2 : Int32) (l3 : Int64) (μ : Mm) (x : Mm), self a0 l1 l2 l3 μ = some x → (∀ p ∈ ([[34]] : List (List Nat)), ¬ rch (mm_P μ) a0 p q) → mm_L ((fun (z : Mm) => z) x) q = mm_L μ q) (hsp : ∀ (a0 : Nat) (l1 : Int32) (l2 : Int32) (l3 : Int64) (μ : Mm) (x : Mm), self a0 l1 l2 l3 μ = some x → mm_P ((fun (z : Mm) => z) x) = mm_P μ) {a0 : Nat} {l1 : Int32} {l2 : Int32} {l3 : Int64} {l5 : Int32} {μ : Mm} {x : ((Int32 × Mm) ⊕ (Mm))} (h : f_X11_makeTurnings_J151 self a0 l1 l2 l3 l5 μ = some x)  : mm_L ((sm (fun (q : Int32 × Mm) => q.2) (fun (q : Mm) => q)) x) q = mm_L μ q := by
  have hi : mm_L μ q = mm_L μ q := rfl
  have hp : mm_P μ = mm_P μ := rfl
  have r_a0 : rch (mm_P μ) a0 [] a0 := rfl
  obtain ⟨v151, e151, h⟩ := bd h
  have h := Option.some.inj h
  subst h
  exact hi
theorem j_X11_makeTurnings_J122 {q : Nat} {self : Nat → Int32 → Int32 → Int64 → Mm → Option Mm} (hs : ∀ (a0 : Nat) (l1 : Int32) (l2 : Int32) (l3 : Int64) (μ : Mm) (x : Mm), self a0 l1 l2 l3 μ = some x → (∀ p ∈ ([[34]] : List (List Nat)), ¬ rch (mm_P μ) a0 p q) → mm_L ((fun (z : Mm) => z) x) q = mm_L μ q) (hsp : ∀ (a0 : Nat) (l1 : Int32) (l2 : Int32) (l3 : Int64) (μ : Mm) (x : Mm), self a0 l1 l2 l3 μ = some x → mm_P ((fun (z : Mm) => z) x) = mm_P μ) {a0 : Nat} {l1 : Int32} {l2 : Int32} {l3 : Int64} {l5 : Int32} {k0 : Int32} {μ : Mm} {x : ((Int32 × Mm) ⊕ (Mm))} (h : f_X11_makeTurnings_J122 self a0 l1 l2 l3 l5 k0 μ = some x) (c_a0 : ∀ p ∈ ([[34]] : List (List Nat)), ¬ rch (mm_P μ) a0 p q) : mm_L ((sm (fun (q : Int32 × Mm) => q.2) (fun (q : Mm) => q)) x) q = mm_L μ q := by
  have hi : mm_L μ q = mm_L μ q := rfl
  have hp : mm_P μ = mm_P μ := rfl
  have r_a0 : rch (mm_P μ) a0 [] a0 := rfl
  rcases ite_e h with ⟨_, h⟩ | ⟨_, h⟩
  · exact (j_X11_makeTurnings_J151 hs hsp h ).trans hi
  · obtain ⟨x148, e148, h⟩ := bd h
    have hi := (hs a0 (l1 + (1 : Int32)) (l2 ||| ((1 : Int32) <<< (l5 &&& 31))) (l3 ||| (l5.toInt64 <<< (((4 : Int32) * l1).toInt64 &&& 63))) μ _ e148 (rch_sub c_a0 r_a0 (by decide) hp)).trans hi
    have hp := (hsp a0 (l1 + (1 : Int32)) (l2 ||| ((1 : Int32) <<< (l5 &&& 31))) (l3 ||| (l5.toInt64 <<< (((4 : Int32) * l1).toInt64 &&& 63))) μ _ e148).trans hp
    exact (j_X11_makeTurnings_J151 hs hsp h ).trans hi
theorem j_X11_makeTurnings_J121 {q : Nat} {self : Nat → Int32 → Int32 → Int64 → Mm → Option Mm} (hs : ∀ (a0 : Nat) (l1 : Int32) (l2 : Int32) (l3 : Int64) (μ : Mm) (x : Mm), self a0 l1 l2 l3 μ = some x → (∀ p ∈ ([[34]] : List (List Nat)), ¬ rch (mm_P μ) a0 p q) → mm_L ((fun (z : Mm) => z) x) q = mm_L μ q) (hsp : ∀ (a0 : Nat) (l1 : Int32) (l2 : Int32) (l3 : Int64) (μ : Mm) (x : Mm), self a0 l1 l2 l3 μ = some x → mm_P ((fun (z : Mm) => z) x) = mm_P μ) {a0 : Nat} {l1 : Int32} {l2 : Int32} {l3 : Int64} {l5 : Int32} {μ : Mm} {x : ((Int32 × Mm) ⊕ (Mm))} (h : f_X11_makeTurnings_J121 self a0 l1 l2 l3 l5 μ = some x) (c_a0 : ∀ p ∈ ([[34]] : List (List Nat)), ¬ rch (mm_P μ) a0 p q) : mm_L ((sm (fun (q : Int32 × Mm) => q.2) (fun (q : Mm) => q)) x) q = mm_L μ q := by
  have hi : mm_L μ q = mm_L μ q := rfl
  have hp : mm_P μ = mm_P μ := rfl
  have r_a0 : rch (mm_P μ) a0 [] a0 := rfl
  exact (j_X11_makeTurnings_J122 hs hsp h (rch_sub c_a0 r_a0 (by decide) hp)).trans hi
theorem j_X11_makeTurnings_J117 {q : Nat} {self : Nat → Int32 → Int32 → Int64 → Mm → Option Mm} (hs : ∀ (a0 : Nat) (l1 : Int32) (l2 : Int32) (l3 : Int64) (μ : Mm) (x : Mm), self a0 l1 l2 l3 μ = some x → (∀ p ∈ ([[34]] : List (List Nat)), ¬ rch (mm_P μ) a0 p q) → mm_L ((fun (z : Mm) => z) x) q = mm_L μ q) (hsp : ∀ (a0 : Nat) (l1 : Int32) (l2 : Int32) (l3 : Int64) (μ : Mm) (x : Mm), self a0 l1 l2 l3 μ = some x → mm_P ((fun (z : Mm) => z) x) = mm_P μ) {a0 : Nat} {l1 : Int32} {l2 : Int32} {l3 : Int64} {l5 : Int32} {μ : Mm} {x : ((Int32 × Mm) ⊕ (Mm))} (h : f_X11_makeTurnings_J117 self a0 l1 l2 l3 l5 μ = some x) (c_a0 : ∀ p ∈ ([[34]] : List (List Nat)), ¬ rch (mm_P μ) a0 p q) : mm_L ((sm (fun (q : Int32 × Mm) => q.2) (fun (q : Mm) => q)) x) q = mm_L μ q := by
  have hi : mm_L μ q = mm_L μ q := rfl
  have hp : mm_P μ = mm_P μ := rfl
  have r_a0 : rch (mm_P μ) a0 [] a0 := rfl
  exact (j_X11_makeTurnings_J122 hs hsp h (rch_sub c_a0 r_a0 (by decide) hp)).trans hi
theorem j_X11_makeTurnings_L60 {q : Nat} {self : Nat → Int32 → Int32 → Int64 → Mm → Option Mm} (hs : ∀ (a0 : Nat) (l1 : Int32) (l2 : Int32) (l3 : Int64) (μ : Mm) (x : Mm), self a0 l1 l2 l3 μ = some x → (∀ p ∈ ([[34]] : List (List Nat)), ¬ rch (mm_P μ) a0 p q) → mm_L ((fun (z : Mm) => z) x) q = mm_L μ q) (hsp : ∀ (a0 : Nat) (l1 : Int32) (l2 : Int32) (l3 : Int64) (μ : Mm) (x : Mm), self a0 l1 l2 l3 μ = some x → mm_P ((fun (z : Mm) => z) x) = mm_P μ) {a0 : Nat} {l1 : Int32} {l2 : Int32} {l3 : Int64} {s60 : Int32 × Mm} {x : ((Int32 × Mm) ⊕ (Mm))} (h : f_X11_makeTurnings_L60 self a0 l1 l2 l3 s60 = some x) (c_a0 : ∀ p ∈ ([[34]] : List (List Nat)), ¬ rch (mm_P ((fun (q : Int32 × Mm) => q.2) s60)) a0 p q) : mm_L (sm (fun (q : Int32 × Mm) => q.2) (fun (q : Mm) => q) x) q = mm_L ((fun (q : Int32 × Mm) => q.2) s60) q := by
  have hi : mm_L ((fun (q : Int32 × Mm) => q.2) s60) q = mm_L ((fun (q : Int32 × Mm) => q.2) s60) q := rfl
  have hp : mm_P ((fun (q : Int32 × Mm) => q.2) s60) = mm_P ((fun (q : Int32 × Mm) => q.2) s60) := rfl
  have r_a0 : rch (mm_P ((fun (q : Int32 × Mm) => q.2) s60)) a0 [] a0 := rfl
  obtain ⟨x63, e63, h⟩ := bd h
  have r_x63 := rch_f r_a0 e63 hp
  obtain ⟨x67, e67, h⟩ := bd h
  rcases ite_e h with ⟨_, h⟩ | ⟨_, h⟩
  · have h := Option.some.inj h
    subst h
    exact hi
  · rcases ite_e h with ⟨_, h⟩ | ⟨_, h⟩
    · exact (j_X11_makeTurnings_J121 hs hsp h (rch_sub c_a0 r_a0 (by decide) hp)).trans hi
    · obtain ⟨x80, e80, h⟩ := bd h
      rcases ite_e h with ⟨_, h⟩ | ⟨_, h⟩
      · rcases ite_e h with ⟨_, h⟩ | ⟨_, h⟩
        · obtain ⟨x96, e96, h⟩ := bd h
          have r_x96 := rch_f r_a0 e96 hp
          obtain ⟨x100, e100, h⟩ := bd h
          rcases ite_e h with ⟨_, h⟩ | ⟨_, h⟩
          · exact (j_X11_makeTurnings_J117 hs hsp h (rch_sub c_a0 r_a0 (by decide) hp)).trans hi
          · obtain ⟨x105, e105, h⟩ := bd h
            have r_x105 := rch_f r_a0 e105 hp
            obtain ⟨x109, e109, h⟩ := bd h
            rcases ite_e h with ⟨_, h⟩ | ⟨_, h⟩
            · exact (j_X11_makeTurnings_J117 hs hsp h (rch_sub c_a0 r_a0 (by decide) hp)).trans hi
            · exact (j_X11_makeTurnings_J121 hs hsp h (rch_sub c_a0 r_a0 (by decide) hp)).trans hi
        · exact (j_X11_makeTurnings_J121 hs hsp h (rch_sub c_a0 r_a0 (by decide) hp)).trans hi
      · exact (j_X11_makeTurnings_J121 hs hsp h (rch_sub c_a0 r_a0 (by decide) hp)).trans hi
theorem j_X11_makeTurnings_W60 {q : Nat} {self : Nat → Int32 → Int32 → Int64 → Mm → Option Mm} (hs : ∀ (a0 : Nat) (l1 : Int32) (l2 : Int32) (l3 : Int64) (μ : Mm) (x : Mm), self a0 l1 l2 l3 μ = some x → (∀ p ∈ ([[34]] : List (List Nat)), ¬ rch (mm_P μ) a0 p q) → mm_L ((fun (z : Mm) => z) x) q = mm_L μ q) (hsp : ∀ (a0 : Nat) (l1 : Int32) (l2 : Int32) (l3 : Int64) (μ : Mm) (x : Mm), self a0 l1 l2 l3 μ = some x → mm_P ((fun (z : Mm) => z) x) = mm_P μ) {a0 : Nat} {l1 : Int32} {l2 : Int32} {l3 : Int64} {s60 : Int32 × Mm} {b : Mm} (h : whl (f_X11_makeTurnings_L60 self a0 l1 l2 l3) s60 = some b) (c_a0 : ∀ p ∈ ([[34]] : List (List Nat)), ¬ rch (mm_P ((fun (q : Int32 × Mm) => q.2) s60)) a0 p q) : mm_L ((fun (q : Mm) => q) b) q = mm_L ((fun (q : Int32 × Mm) => q.2) s60) q := by
  have key := whl_inv (P := fun s' => mm_L ((fun (q : Int32 × Mm) => q.2) s') q = mm_L ((fun (q : Int32 × Mm) => q.2) s60) q ∧ mm_P ((fun (q : Int32 × Mm) => q.2) s') = mm_P ((fun (q : Int32 × Mm) => q.2) s60)) (Q := fun b' => mm_L ((fun (q : Mm) => q) b') q = mm_L ((fun (q : Int32 × Mm) => q.2) s60) q) (fun s' x hs1 hx => ?_) ⟨rfl, rfl⟩ h
  · exact key
  · obtain ⟨h1, hP⟩ := hs1
    have k1 := (j_X11_makeTurnings_L60 hs hsp hx (fun p hp hr => c_a0 p hp (by rw [← hP]; exact hr))).trans h1
    have k2 := (p_X11_makeTurnings_L60 hsp hx).trans hP
    cases x with
    | inl z => exact ⟨k1, k2⟩
    | inr z => exact k1
theorem j_X11_makeTurnings_B {q : Nat} {self : Nat → Int32 → Int32 → Int64 → Mm → Option Mm} (hs : ∀ (a0 : Nat) (l1 : Int32) (l2 : Int32) (l3 : Int64) (μ : Mm) (x : Mm), self a0 l1 l2 l3 μ = some x → (∀ p ∈ ([[34]] : List (List Nat)), ¬ rch (mm_P μ) a0 p q) → mm_L ((fun (z : Mm) => z) x) q = mm_L μ q) (hsp : ∀ (a0 : Nat) (l1 : Int32) (l2 : Int32) (l3 : Int64) (μ : Mm) (x : Mm), self a0 l1 l2 l3 μ = some x → mm_P ((fun (z : Mm) => z) x) = mm_P μ) {a0 : Nat} {l1 : Int32} {l2 : Int32} {l3 : Int64} {μ : Mm} {x : Mm} (h : f_X11_makeTurnings_B self a0 l1 l2 l3 μ = some x) (c_a0 : ∀ p ∈ ([[34]] : List (List Nat)), ¬ rch (mm_P μ) a0 p q) : mm_L ((fun (q : Mm) => q) x) q = mm_L μ q := by
  have hi : mm_L μ q = mm_L μ q := rfl
  have hp : mm_P μ = mm_P μ := rfl
  have r_a0 : rch (mm_P μ) a0 [] a0 := rfl
  obtain ⟨_, h⟩ := ite_p h
  obtain ⟨x2, e2, h⟩ := bd h
  have r_x2 := rch_f r_a0 e2 hp
  obtain ⟨x6, e6, h⟩ := bd h
  rcases ite_e h with ⟨_, h⟩ | ⟨_, h⟩
  · obtain ⟨x11, e11, h⟩ := bd h
    have r_x11 := rch_f r_a0 e11 hp
    obtain ⟨x15, e15, h⟩ := bd h
    obtain ⟨μ19, e19, h⟩ := bd h
    have hi := (kj_paL e19 (rch_ne c_a0 (by decide) r_x11)).trans hi
    have hp := (kp_paL e19).trans hp
    obtain ⟨x22, e22, h⟩ := bd h
    obtain ⟨μ27, e27, h⟩ := bd h
    have hi := (kj_pfI e27).trans hi
    have hp := (kp_pfI e27).trans hp
    have h := Option.some.inj h
    subst h
    exact hi
  · obtain ⟨x33, e33, h⟩ := bd h
    rcases ite_e h with ⟨_, h⟩ | ⟨_, h⟩
    · obtain ⟨b60, w60, h⟩ := bd h
      have hi := (j_X11_makeTurnings_W60 hs hsp w60 (rch_sub c_a0 r_a0 (by decide) hp)).trans hi
      have hp := (p_X11_makeTurnings_W60 hsp w60).trans hp
      have h := Option.some.inj h
      subst h
      exact hi
    · obtain ⟨x53, e53, h⟩ := bd h
      have hi := (hs a0 (l1 + (1 : Int32)) l2 (l3 ||| ((15 : Int64) <<< (((4 : Int32) * l1).toInt64 &&& 63))) μ _ e53 (rch_sub c_a0 r_a0 (by decide) hp)).trans hi
      have hp := (hsp a0 (l1 + (1 : Int32)) l2 (l3 ||| ((15 : Int64) <<< (((4 : Int32) * l1).toInt64 &&& 63))) μ _ e53).trans hp
      have h := Option.some.inj h
      subst h
      exact hi
theorem j_X11_makeTurnings {n : Nat} {q : Nat} : ∀ {a0 : Nat} {l1 : Int32} {l2 : Int32} {l3 : Int64} {μ : Mm} {x : Mm}, f_X11_makeTurnings n a0 l1 l2 l3 μ = some x → (∀ p ∈ ([[34]] : List (List Nat)), ¬ rch (mm_P μ) a0 p q) → mm_L ((fun (q : Mm) => q) x) q = mm_L μ q := by
  induction n with
  | zero => intro a0 l1 l2 l3 μ x h; cases h
  | succ n ih => intro a0 l1 l2 l3 μ x h c_a0; exact j_X11_makeTurnings_B (fun _ _ _ _ μ x h c_a0 => ih h c_a0) (fun _ _ _ _ μ x h => p_X11_makeTurnings h) h c_a0
theorem j_X11_settle_L192 {a0 : Nat} {s192 : Int32 × Mm} {x : ((Int32 × Mm) ⊕ (Mm))} {q : Nat} (h : f_X11_settle_L192 a0 s192 = some x)  : mm_L (sm (fun (q : Int32 × Mm) => q.2) (fun (q : Mm) => q) x) q = mm_L ((fun (q : Int32 × Mm) => q.2) s192) q := by
  have hi : mm_L ((fun (q : Int32 × Mm) => q.2) s192) q = mm_L ((fun (q : Int32 × Mm) => q.2) s192) q := rfl
  have hp : mm_P ((fun (q : Int32 × Mm) => q.2) s192) = mm_P ((fun (q : Int32 × Mm) => q.2) s192) := rfl
  have r_a0 : rch (mm_P ((fun (q : Int32 × Mm) => q.2) s192)) a0 [] a0 := rfl
  rcases ite_e h with ⟨_, h⟩ | ⟨_, h⟩
  · have h := Option.some.inj h
    subst h
    exact hi
  · obtain ⟨x198, e198, h⟩ := bd h
    have r_x198 := rch_f r_a0 e198 hp
    obtain ⟨μ203, e203, h⟩ := bd h
    have hi := (kj_paZ e203).trans hi
    have hp := (kp_paZ e203).trans hp
    obtain ⟨v204, e204, h⟩ := bd h
    have h := Option.some.inj h
    subst h
    exact hi
theorem j_X11_settle_W192 {a0 : Nat} {s192 : Int32 × Mm} {b : Mm} {q : Nat} (h : whl (f_X11_settle_L192 a0) s192 = some b)  : mm_L ((fun (q : Mm) => q) b) q = mm_L ((fun (q : Int32 × Mm) => q.2) s192) q := by
  have key := whl_inv (P := fun s' => mm_L ((fun (q : Int32 × Mm) => q.2) s') q = mm_L ((fun (q : Int32 × Mm) => q.2) s192) q ∧ mm_P ((fun (q : Int32 × Mm) => q.2) s') = mm_P ((fun (q : Int32 × Mm) => q.2) s192)) (Q := fun b' => mm_L ((fun (q : Mm) => q) b') q = mm_L ((fun (q : Int32 × Mm) => q.2) s192) q) (fun s' x hs1 hx => ?_) ⟨rfl, rfl⟩ h
  · exact key
  · obtain ⟨h1, hP⟩ := hs1
    have k1 := (j_X11_settle_L192 hx ).trans h1
    have k2 := (p_X11_settle_L192 hx).trans hP
    cases x with
    | inl z => exact ⟨k1, k2⟩
    | inr z => exact k1
theorem j_X11_settle {a0 : Nat} {μ : Mm} {x : Mm} {q : Nat} (h : f_X11_settle a0 μ = some x) (c_a0 : ∀ p ∈ ([[34]] : List (List Nat)), ¬ rch (mm_P μ) a0 p q) : mm_L ((fun (q : Mm) => q) x) q = mm_L μ q := by
  have hi : mm_L μ q = mm_L μ q := rfl
  have hp : mm_P μ = mm_P μ := rfl
  have r_a0 : rch (mm_P μ) a0 [] a0 := rfl
  obtain ⟨_, h⟩ := ite_p h
  obtain ⟨x1, e1, h⟩ := bd h
  have r_x1 := rch_f r_a0 e1 hp
  obtain ⟨x6, e6, h⟩ := bd h
  have hi := (j_X11_comes e6 ).trans hi
  have hp := (p_X11_comes e6).trans hp
  obtain ⟨x10, e10, h⟩ := bd h
  have r_x10 := rch_f r_a0 e10 hp
  obtain ⟨x15, e15, h⟩ := bd h
  have hi := (j_X11_comes e15 ).trans hi
  have hp := (p_X11_comes e15).trans hp
  obtain ⟨x19, e19, h⟩ := bd h
  have r_x19 := rch_f r_a0 e19 hp
  obtain ⟨x24, e24, h⟩ := bd h
  have hi := (j_X11_comes e24 ).trans hi
  have hp := (p_X11_comes e24).trans hp
  obtain ⟨x28, e28, h⟩ := bd h
  have r_x28 := rch_f r_a0 e28 hp
  obtain ⟨x33, e33, h⟩ := bd h
  have hi := (j_X11_comes e33 ).trans hi
  have hp := (p_X11_comes e33).trans hp
  obtain ⟨x37, e37, h⟩ := bd h
  have r_x37 := rch_f r_a0 e37 hp
  obtain ⟨x42, e42, h⟩ := bd h
  have hi := (j_X11_comes e42 ).trans hi
  have hp := (p_X11_comes e42).trans hp
  obtain ⟨x46, e46, h⟩ := bd h
  have r_x46 := rch_f r_a0 e46 hp
  obtain ⟨x51, e51, h⟩ := bd h
  have hi := (j_X11_comes e51 ).trans hi
  have hp := (p_X11_comes e51).trans hp
  obtain ⟨x55, e55, h⟩ := bd h
  have r_x55 := rch_f r_a0 e55 hp
  obtain ⟨x60, e60, h⟩ := bd h
  have hi := (j_X11_comes e60 ).trans hi
  have hp := (p_X11_comes e60).trans hp
  obtain ⟨x64, e64, h⟩ := bd h
  have r_x64 := rch_f r_a0 e64 hp
  obtain ⟨x69, e69, h⟩ := bd h
  have hi := (j_X11_comes e69 ).trans hi
  have hp := (p_X11_comes e69).trans hp
  obtain ⟨x73, e73, h⟩ := bd h
  have r_x73 := rch_f r_a0 e73 hp
  obtain ⟨x78, e78, h⟩ := bd h
  have hi := (j_X11_comes e78 ).trans hi
  have hp := (p_X11_comes e78).trans hp
  obtain ⟨x82, e82, h⟩ := bd h
  have r_x82 := rch_f r_a0 e82 hp
  obtain ⟨x87, e87, h⟩ := bd h
  have hi := (j_X11_comes e87 ).trans hi
  have hp := (p_X11_comes e87).trans hp
  obtain ⟨x91, e91, h⟩ := bd h
  have r_x91 := rch_f r_a0 e91 hp
  obtain ⟨x96, e96, h⟩ := bd h
  have hi := (j_X11_comes e96 ).trans hi
  have hp := (p_X11_comes e96).trans hp
  obtain ⟨x100, e100, h⟩ := bd h
  have r_x100 := rch_f r_a0 e100 hp
  obtain ⟨x105, e105, h⟩ := bd h
  have hi := (j_X11_comes e105 ).trans hi
  have hp := (p_X11_comes e105).trans hp
  obtain ⟨x109, e109, h⟩ := bd h
  have r_x109 := rch_f r_a0 e109 hp
  obtain ⟨x114, e114, h⟩ := bd h
  have hi := (j_X11_comes e114 ).trans hi
  have hp := (p_X11_comes e114).trans hp
  obtain ⟨x118, e118, h⟩ := bd h
  have r_x118 := rch_f r_a0 e118 hp
  obtain ⟨x123, e123, h⟩ := bd h
  have hi := (j_X11_comes e123 ).trans hi
  have hp := (p_X11_comes e123).trans hp
  obtain ⟨x127, e127, h⟩ := bd h
  have r_x127 := rch_f r_a0 e127 hp
  obtain ⟨x132, e132, h⟩ := bd h
  have hi := (j_X11_comes e132 ).trans hi
  have hp := (p_X11_comes e132).trans hp
  obtain ⟨x136, e136, h⟩ := bd h
  have r_x136 := rch_f r_a0 e136 hp
  obtain ⟨x141, e141, h⟩ := bd h
  have hi := (j_X11_comes e141 ).trans hi
  have hp := (p_X11_comes e141).trans hp
  obtain ⟨x145, e145, h⟩ := bd h
  have r_x145 := rch_f r_a0 e145 hp
  obtain ⟨x150, e150, h⟩ := bd h
  have hi := (j_X11_comes e150 ).trans hi
  have hp := (p_X11_comes e150).trans hp
  obtain ⟨μ155, e155, h⟩ := bd h
  have hi := (kj_pfI e155).trans hi
  have hp := (kp_pfI e155).trans hp
  obtain ⟨x162, e162, h⟩ := bd h
  have hi := (j_X11_makeTurnings e162 (rch_sub c_a0 r_a0 (by decide) hp)).trans hi
  have hp := (p_X11_makeTurnings e162).trans hp
  obtain ⟨μ167, e167, h⟩ := bd h
  have hi := (kj_pfI e167).trans hi
  have hp := (kp_pfI e167).trans hp
  obtain ⟨μ172, e172, h⟩ := bd h
  have hi := (kj_pfI e172).trans hi
  have hp := (kp_pfI e172).trans hp
  obtain ⟨μ177, e177, h⟩ := bd h
  have hi := (kj_pfI e177).trans hi
  have hp := (kp_pfI e177).trans hp
  obtain ⟨μ182, e182, h⟩ := bd h
  have hi := (kj_pfI e182).trans hi
  have hp := (kp_pfI e182).trans hp
  obtain ⟨μ187, e187, h⟩ := bd h
  have hi := (kj_pfZ e187).trans hi
  have hp := (kp_pfZ e187).trans hp
  obtain ⟨b192, w192, h⟩ := bd h
  have hi := (j_X11_settle_W192 w192 ).trans hi
  have hp := (p_X11_settle_W192 w192).trans hp
  have h := Option.some.inj h
  subst h
  exact hi
theorem j_X11_scan_J270 {a0 : Nat} {l3 : Int32} {μ : Mm} {x : Mm} {q : Nat} (h : f_X11_scan_J270 a0 l3 μ = some x)  : mm_L ((fun (q : Mm) => q) x) q = mm_L μ q := by
  have hi : mm_L μ q = mm_L μ q := rfl
  have hp : mm_P μ = mm_P μ := rfl
  have r_a0 : rch (mm_P μ) a0 [] a0 := rfl
  obtain ⟨μ272, e272, h⟩ := bd h
  have hi := (kj_pfI e272).trans hi
  have hp := (kp_pfI e272).trans hp
  have h := Option.some.inj h
  subst h
  exact hi
theorem j_X11_scan_J267 {a0 : Nat} {l3 : Int32} {k0 : Nat} {k1 : Int32} {μ : Mm} {x : Mm} {q : Nat} (h : f_X11_scan_J267 a0 l3 k0 k1 μ = some x)  : mm_L ((fun (q : Mm) => q) x) q = mm_L μ q := by
  have hi : mm_L μ q = mm_L μ q := rfl
  have hp : mm_P μ = mm_P μ := rfl
  have r_a0 : rch (mm_P μ) a0 [] a0 := rfl
  have r_k0 : rch (mm_P μ) k0 [] k0 := rfl
  obtain ⟨μ267, e267, h⟩ := bd h
  have hi := (kj_pfI e267).trans hi
  have hp := (kp_pfI e267).trans hp
  exact (j_X11_scan_J270 h ).trans hi
theorem j_X11_scan_J249 {a0 : Nat} {l3 : Int32} {k0 : Nat} {k1 : Int32} {μ : Mm} {x : Mm} {q : Nat} (h : f_X11_scan_J249 a0 l3 k0 k1 μ = some x)  : mm_L ((fun (q : Mm) => q) x) q = mm_L μ q := by
  have hi : mm_L μ q = mm_L μ q := rfl
  have hp : mm_P μ = mm_P μ := rfl
  have r_a0 : rch (mm_P μ) a0 [] a0 := rfl
  have r_k0 : rch (mm_P μ) k0 [] k0 := rfl
  obtain ⟨μ249, e249, h⟩ := bd h
  have hi := (kj_pfI e249).trans hi
  have hp := (kp_pfI e249).trans hp
  exact (j_X11_scan_J270 h ).trans hi
theorem j_X11_scan_J236 {a0 : Nat} {l1 : Int32} {l3 : Int32} {μ : Mm} {x : Mm} {q : Nat} (h : f_X11_scan_J236 a0 l1 l3 μ = some x)  : mm_L ((fun (q : Mm) => q) x) q = mm_L μ q := by
  have hi : mm_L μ q = mm_L μ q := rfl
  have hp : mm_P μ = mm_P μ := rfl
  have r_a0 : rch (mm_P μ) a0 [] a0 := rfl
  rcases ite_e h with ⟨_, h⟩ | ⟨_, h⟩
  · exact (j_X11_scan_J249 h ).trans hi
  · exact (j_X11_scan_J249 h ).trans hi
theorem j_X11_scan_J227 {a0 : Nat} {l1 : Int32} {l3 : Int32} {k0 : Nat} {k1 : Int32} {μ : Mm} {x : ((Int32 × Mm) ⊕ (Int32 × Mm))} {q : Nat} (h : f_X11_scan_J227 a0 l1 l3 k0 k1 μ = some x)  : mm_L ((sm (fun (q : Int32 × Mm) => q.2) (fun (q : Int32 × Mm) => q.2)) x) q = mm_L μ q := by
  have hi : mm_L μ q = mm_L μ q := rfl
  have hp : mm_P μ = mm_P μ := rfl
  have r_a0 : rch (mm_P μ) a0 [] a0 := rfl
  have r_k0 : rch (mm_P μ) k0 [] k0 := rfl
  obtain ⟨μ227, e227, h⟩ := bd h
  have hi := (kj_pfI e227).trans hi
  have hp := (kp_pfI e227).trans hp
  obtain ⟨v230, e230, h⟩ := bd h
  have h := Option.some.inj h
  subst h
  exact hi
theorem j_X11_scan_L185 {a0 : Nat} {l1 : Int32} {s185 : Int32 × Mm} {x : ((Int32 × Mm) ⊕ (Int32 × Mm))} {q : Nat} (h : f_X11_scan_L185 a0 l1 s185 = some x)  : mm_L (sm (fun (q : Int32 × Mm) => q.2) (fun (q : Int32 × Mm) => q.2) x) q = mm_L ((fun (q : Int32 × Mm) => q.2) s185) q := by
  have hi : mm_L ((fun (q : Int32 × Mm) => q.2) s185) q = mm_L ((fun (q : Int32 × Mm) => q.2) s185) q := rfl
  have hp : mm_P ((fun (q : Int32 × Mm) => q.2) s185) = mm_P ((fun (q : Int32 × Mm) => q.2) s185) := rfl
  have r_a0 : rch (mm_P ((fun (q : Int32 × Mm) => q.2) s185)) a0 [] a0 := rfl
  obtain ⟨x187, e187, h⟩ := bd h
  obtain ⟨x190, e190, h⟩ := bd h
  rcases ite_e h with ⟨_, h⟩ | ⟨_, h⟩
  · have h := Option.some.inj h
    subst h
    exact hi
  · rcases ite_e h with ⟨_, h⟩ | ⟨_, h⟩
    · obtain ⟨x224, e224, h⟩ := bd h
      exact (j_X11_scan_J227 h ).trans hi
    · obtain ⟨x207, e207, h⟩ := bd h
      obtain ⟨x213, e213, h⟩ := bd h
      exact (j_X11_scan_J227 h ).trans hi
theorem j_X11_scan_W185 {a0 : Nat} {l1 : Int32} {s185 : Int32 × Mm} {b : Int32 × Mm} {q : Nat} (h : whl (f_X11_scan_L185 a0 l1) s185 = some b)  : mm_L ((fun (q : Int32 × Mm) => q.2) b) q = mm_L ((fun (q : Int32 × Mm) => q.2) s185) q := by
  have key := whl_inv (P := fun s' => mm_L ((fun (q : Int32 × Mm) => q.2) s') q = mm_L ((fun (q : Int32 × Mm) => q.2) s185) q ∧ mm_P ((fun (q : Int32 × Mm) => q.2) s') = mm_P ((fun (q : Int32 × Mm) => q.2) s185)) (Q := fun b' => mm_L ((fun (q : Int32 × Mm) => q.2) b') q = mm_L ((fun (q : Int32 × Mm) => q.2) s185) q) (fun s' x hs1 hx => ?_) ⟨rfl, rfl⟩ h
  · exact key
  · obtain ⟨h1, hP⟩ := hs1
    have k1 := (j_X11_scan_L185 hx ).trans h1
    have k2 := (p_X11_scan_L185 hx).trans hP
    cases x with
    | inl z => exact ⟨k1, k2⟩
    | inr z => exact k1
theorem j_X11_scan_J144 {a0 : Nat} {l1 : Int32} {l3 : Int32} {k0 : Nat} {k1 : Int32} {μ : Mm} {x : Mm} {q : Nat} (h : f_X11_scan_J144 a0 l1 l3 k0 k1 μ = some x)  : mm_L ((fun (q : Mm) => q) x) q = mm_L μ q := by
  have hi : mm_L μ q = mm_L μ q := rfl
  have hp : mm_P μ = mm_P μ := rfl
  have r_a0 : rch (mm_P μ) a0 [] a0 := rfl
  have r_k0 : rch (mm_P μ) k0 [] k0 := rfl
  obtain ⟨μ144, e144, h⟩ := bd h
  have hi := (kj_pfI e144).trans hi
  have hp := (kp_pfI e144).trans hp
  obtain ⟨x148, e148, h⟩ := bd h
  rcases ite_e h with ⟨_, h⟩ | ⟨_, h⟩
  · obtain ⟨x161, e161, h⟩ := bd h
    obtain ⟨μ164, e164, h⟩ := bd h
    have hi := (kj_pfI e164).trans hi
    have hp := (kp_pfI e164).trans hp
    exact (j_X11_scan_J270 h ).trans hi
  · exact (j_X11_scan_J270 h ).trans hi
theorem j_X11_scan_J130 {a0 : Nat} {l1 : Int32} {l3 : Int32} {μ : Mm} {x : Mm} {q : Nat} (h : f_X11_scan_J130 a0 l1 l3 μ = some x)  : mm_L ((fun (q : Mm) => q) x) q = mm_L μ q := by
  have hi : mm_L μ q = mm_L μ q := rfl
  have hp : mm_P μ = mm_P μ := rfl
  have r_a0 : rch (mm_P μ) a0 [] a0 := rfl
  rcases ite_e h with ⟨_, h⟩ | ⟨_, h⟩
  · exact (j_X11_scan_J144 h ).trans hi
  · exact (j_X11_scan_J144 h ).trans hi
theorem j_X11_scan_J124 {a0 : Nat} {l1 : Int32} {l3 : Int32} {μ : Mm} {x : ((Int32 × Mm) ⊕ (Int32 × Mm))} {q : Nat} (h : f_X11_scan_J124 a0 l1 l3 μ = some x)  : mm_L ((sm (fun (q : Int32 × Mm) => q.2) (fun (q : Int32 × Mm) => q.2)) x) q = mm_L μ q := by
  have hi : mm_L μ q = mm_L μ q := rfl
  have hp : mm_P μ = mm_P μ := rfl
  have r_a0 : rch (mm_P μ) a0 [] a0 := rfl
  obtain ⟨v124, e124, h⟩ := bd h
  have h := Option.some.inj h
  subst h
  exact hi
theorem j_X11_scan_L80 {a0 : Nat} {l1 : Int32} {s80 : Int32 × Mm} {x : ((Int32 × Mm) ⊕ (Int32 × Mm))} {q : Nat} (h : f_X11_scan_L80 a0 l1 s80 = some x) (c_a0 : ∀ p ∈ ([[]] : List (List Nat)), ¬ rch (mm_P ((fun (q : Int32 × Mm) => q.2) s80)) a0 p q) : mm_L (sm (fun (q : Int32 × Mm) => q.2) (fun (q : Int32 × Mm) => q.2) x) q = mm_L ((fun (q : Int32 × Mm) => q.2) s80) q := by
  have hi : mm_L ((fun (q : Int32 × Mm) => q.2) s80) q = mm_L ((fun (q : Int32 × Mm) => q.2) s80) q := rfl
  have hp : mm_P ((fun (q : Int32 × Mm) => q.2) s80) = mm_P ((fun (q : Int32 × Mm) => q.2) s80) := rfl
  have r_a0 : rch (mm_P ((fun (q : Int32 × Mm) => q.2) s80)) a0 [] a0 := rfl
  obtain ⟨x82, e82, h⟩ := bd h
  obtain ⟨x85, e85, h⟩ := bd h
  rcases ite_e h with ⟨_, h⟩ | ⟨_, h⟩
  · have h := Option.some.inj h
    subst h
    exact hi
  · rcases ite_e h with ⟨_, h⟩ | ⟨_, h⟩
    · exact (j_X11_scan_J124 h ).trans hi
    · obtain ⟨x104, e104, h⟩ := bd h
      obtain ⟨x110, e110, h⟩ := bd h
      obtain ⟨μ121, e121, h⟩ := bd h
      have hi := (kj_pfL e121 (rch_ne c_a0 (by decide) r_a0)).trans hi
      have hp := (kp_pfL e121).trans hp
      exact (j_X11_scan_J124 h ).trans hi
theorem j_X11_scan_W80 {a0 : Nat} {l1 : Int32} {s80 : Int32 × Mm} {b : Int32 × Mm} {q : Nat} (h : whl (f_X11_scan_L80 a0 l1) s80 = some b) (c_a0 : ∀ p ∈ ([[]] : List (List Nat)), ¬ rch (mm_P ((fun (q : Int32 × Mm) => q.2) s80)) a0 p q) : mm_L ((fun (q : Int32 × Mm) => q.2) b) q = mm_L ((fun (q : Int32 × Mm) => q.2) s80) q := by
  have key := whl_inv (P := fun s' => mm_L ((fun (q : Int32 × Mm) => q.2) s') q = mm_L ((fun (q : Int32 × Mm) => q.2) s80) q ∧ mm_P ((fun (q : Int32 × Mm) => q.2) s') = mm_P ((fun (q : Int32 × Mm) => q.2) s80)) (Q := fun b' => mm_L ((fun (q : Int32 × Mm) => q.2) b') q = mm_L ((fun (q : Int32 × Mm) => q.2) s80) q) (fun s' x hs1 hx => ?_) ⟨rfl, rfl⟩ h
  · exact key
  · obtain ⟨h1, hP⟩ := hs1
    have k1 := (j_X11_scan_L80 hx (fun p hp hr => c_a0 p hp (by rw [← hP]; exact hr))).trans h1
    have k2 := (p_X11_scan_L80 hx).trans hP
    cases x with
    | inl z => exact ⟨k1, k2⟩
    | inr z => exact k1
theorem j_X11_scan_J31 {a0 : Nat} {l1 : Int32} {μ : Mm} {x : Mm} {q : Nat} (h : f_X11_scan_J31 a0 l1 μ = some x) (c_a0 : ∀ p ∈ ([[]] : List (List Nat)), ¬ rch (mm_P μ) a0 p q) : mm_L ((fun (q : Mm) => q) x) q = mm_L μ q := by
  have hi : mm_L μ q = mm_L μ q := rfl
  have hp : mm_P μ = mm_P μ := rfl
  have r_a0 : rch (mm_P μ) a0 [] a0 := rfl
  obtain ⟨μ33, e33, h⟩ := bd h
  have hi := (kj_pfI e33).trans hi
  have hp := (kp_pfI e33).trans hp
  obtain ⟨x38, e38, h⟩ := bd h
  obtain ⟨v45, e45, h⟩ := bd h
  obtain ⟨μ48, e48, h⟩ := bd h
  have hi := (kj_pfI e48).trans hi
  have hp := (kp_pfI e48).trans hp
  rcases ite_e h with ⟨_, h⟩ | ⟨_, h⟩
  · obtain ⟨μ58, e58, h⟩ := bd h
    have hi := (kj_pfI e58).trans hi
    have hp := (kp_pfI e58).trans hp
    exact (j_X11_scan_J270 h ).trans hi
  · obtain ⟨x67, e67, h⟩ := bd h
    rcases ite_e h with ⟨_, h⟩ | ⟨_, h⟩
    · obtain ⟨x171, e171, h⟩ := bd h
      rcases ite_e h with ⟨_, h⟩ | ⟨_, h⟩
      · rcases ite_e h with ⟨_, h⟩ | ⟨_, h⟩
        · exact (j_X11_scan_J267 h ).trans hi
        · exact (j_X11_scan_J267 h ).trans hi
      · obtain ⟨μ182, e182, h⟩ := bd h
        have hi := (kj_pfI e182).trans hi
        have hp := (kp_pfI e182).trans hp
        obtain ⟨b185, w185, h⟩ := bd h
        have hi := (j_X11_scan_W185 w185 ).trans hi
        have hp := (p_X11_scan_W185 w185).trans hp
        exact (j_X11_scan_J236 h ).trans hi
    · obtain ⟨μ75, e75, h⟩ := bd h
      have hi := (kj_pfL e75 (rch_ne c_a0 (by decide) r_a0)).trans hi
      have hp := (kp_pfL e75).trans hp
      obtain ⟨b80, w80, h⟩ := bd h
      have hi := (j_X11_scan_W80 w80 (rch_sub c_a0 r_a0 (by decide) hp)).trans hi
      have hp := (p_X11_scan_W80 w80).trans hp
      exact (j_X11_scan_J130 h ).trans hi
theorem j_X11_scan {a0 : Nat} {μ : Mm} {x : Mm} {q : Nat} (h : f_X11_scan a0 μ = some x) (c_a0 : ∀ p ∈ ([[]] : List (List Nat)), ¬ rch (mm_P μ) a0 p q) : mm_L ((fun (q : Mm) => q) x) q = mm_L μ q := by
  have hi : mm_L μ q = mm_L μ q := rfl
  have hp : mm_P μ = mm_P μ := rfl
  have r_a0 : rch (mm_P μ) a0 [] a0 := rfl
  obtain ⟨_, h⟩ := ite_p h
  obtain ⟨x1, e1, h⟩ := bd h
  obtain ⟨b5, w5, h⟩ := bd h
  exact (j_X11_scan_J31 h (rch_sub c_a0 r_a0 (by decide) hp)).trans hi
theorem j_X11_takeTape {a0 : Nat} {μ : Mm} {x : Mm} {q : Nat} (h : f_X11_takeTape a0 μ = some x) (c_a0 : ∀ p ∈ ([[]] : List (List Nat)), ¬ rch (mm_P μ) a0 p q) : mm_L ((fun (q : Mm) => q) x) q = mm_L μ q := by
  have hi : mm_L μ q = mm_L μ q := rfl
  have hp : mm_P μ = mm_P μ := rfl
  have r_a0 : rch (mm_P μ) a0 [] a0 := rfl
  obtain ⟨_, h⟩ := ite_p h
  obtain ⟨x2, e2, h⟩ := bd h
  obtain ⟨μ5, e5, h⟩ := bd h
  have hi := (kj_pfI e5).trans hi
  have hp := (kp_pfI e5).trans hp
  obtain ⟨μ10, e10, h⟩ := bd h
  have hi := (kj_pfI e10).trans hi
  have hp := (kp_pfI e10).trans hp
  obtain ⟨μ15, e15, h⟩ := bd h
  have hi := (kj_pfI e15).trans hi
  have hp := (kp_pfI e15).trans hp
  obtain ⟨x19, e19, h⟩ := bd h
  have hi := (j_X11_scan e19 (rch_sub c_a0 r_a0 (by decide) hp)).trans hi
  have hp := (p_X11_scan e19).trans hp
  have h := Option.some.inj h
  subst h
  exact hi
theorem j_X11_readBook_J114 {a0 : Nat} {l1 : Int32} {μ : Mm} {x : ((Int32 × Mm) ⊕ ((Mm) ⊕ ((Mm) ⊕ (Int32 × Mm))))} {q : Nat} (h : f_X11_readBook_J114 a0 l1 μ = some x) (c_a0 : ∀ p ∈ ([[]] : List (List Nat)), ¬ rch (mm_P μ) a0 p q) : mm_L ((sm (fun (q : Int32 × Mm) => q.2) (sm (fun (q : Mm) => q) (sm (fun (q : Mm) => q) (fun (q : Int32 × Mm) => q.2)))) x) q = mm_L μ q := by
  have hi : mm_L μ q = mm_L μ q := rfl
  have hp : mm_P μ = mm_P μ := rfl
  have r_a0 : rch (mm_P μ) a0 [] a0 := rfl
  obtain ⟨x115, e115, h⟩ := bd h
  rcases ite_e h with ⟨_, h⟩ | ⟨_, h⟩
  · obtain ⟨x125, e125, h⟩ := bd h
    have hi := (j_X11_scan e125 (rch_sub c_a0 r_a0 (by decide) hp)).trans hi
    have hp := (p_X11_scan e125).trans hp
    obtain ⟨v128, e128, h⟩ := bd h
    have h := Option.some.inj h
    subst h
    exact hi
  · have h := Option.some.inj h
    subst h
    exact hi
theorem j_X11_readBook_J104 {a0 : Nat} {l1 : Int32} {l2 : Int32} {μ : Mm} {x : ((Int32 × Mm) ⊕ ((Mm) ⊕ (Mm)))} {q : Nat} (h : f_X11_readBook_J104 a0 l1 l2 μ = some x) (c_a0 : ∀ p ∈ ([[]] : List (List Nat)), ¬ rch (mm_P μ) a0 p q) : mm_L ((sm (fun (q : Int32 × Mm) => q.2) (sm (fun (q : Mm) => q) (fun (q : Mm) => q))) x) q = mm_L μ q := by
  have hi : mm_L μ q = mm_L μ q := rfl
  have hp : mm_P μ = mm_P μ := rfl
  have r_a0 : rch (mm_P μ) a0 [] a0 := rfl
  obtain ⟨x105, e105, h⟩ := bd h
  have hi := (j_X11_scan e105 (rch_sub c_a0 r_a0 (by decide) hp)).trans hi
  have hp := (p_X11_scan e105).trans hp
  obtain ⟨v108, e108, h⟩ := bd h
  have h := Option.some.inj h
  subst h
  exact hi
theorem j_X11_readBook_J54 {a0 : Nat} {l1 : Int32} {l2 : Int32} {k0 : Int32} {k1 : Int32} {μ : Mm} {x : ((Int32 × Mm) ⊕ ((Mm) ⊕ (Mm)))} {q : Nat} (h : f_X11_readBook_J54 a0 l1 l2 k0 k1 μ = some x) (c_a0 : ∀ p ∈ ([[]] : List (List Nat)), ¬ rch (mm_P μ) a0 p q) : mm_L ((sm (fun (q : Int32 × Mm) => q.2) (sm (fun (q : Mm) => q) (fun (q : Mm) => q))) x) q = mm_L μ q := by
  have hi : mm_L μ q = mm_L μ q := rfl
  have hp : mm_P μ = mm_P μ := rfl
  have r_a0 : rch (mm_P μ) a0 [] a0 := rfl
  rcases ite_e h with ⟨_, h⟩ | ⟨_, h⟩
  · rcases ite_e h with ⟨_, h⟩ | ⟨_, h⟩
    · obtain ⟨x64, e64, h⟩ := bd h
      have r_x64 := rch_f r_a0 e64 hp
      obtain ⟨x69, e69, h⟩ := bd h
      obtain ⟨μ72, e72, h⟩ := bd h
      have hi := (kj_paI e72).trans hi
      have hp := (kp_paI e72).trans hp
      exact (j_X11_readBook_J104 h (rch_sub c_a0 r_a0 (by decide) hp)).trans hi
    · rcases ite_e h with ⟨_, h⟩ | ⟨_, h⟩
      · obtain ⟨x82, e82, h⟩ := bd h
        have r_x82 := rch_f r_a0 e82 hp
        obtain ⟨x87, e87, h⟩ := bd h
        obtain ⟨μ90, e90, h⟩ := bd h
        have hi := (kj_paI e90).trans hi
        have hp := (kp_paI e90).trans hp
        exact (j_X11_readBook_J104 h (rch_sub c_a0 r_a0 (by decide) hp)).trans hi
      · obtain ⟨x95, e95, h⟩ := bd h
        have r_x95 := rch_f r_a0 e95 hp
        obtain ⟨x100, e100, h⟩ := bd h
        obtain ⟨μ103, e103, h⟩ := bd h
        have hi := (kj_paI e103).trans hi
        have hp := (kp_paI e103).trans hp
        exact (j_X11_readBook_J104 h (rch_sub c_a0 r_a0 (by decide) hp)).trans hi
  · have h := Option.some.inj h
    subst h
    exact hi
theorem j_X11_readBook_L16 {a0 : Nat} {l1 : Int32} {s16 : Int32 × Mm} {x : ((Int32 × Mm) ⊕ ((Mm) ⊕ (Mm)))} {q : Nat} (h : f_X11_readBook_L16 a0 l1 s16 = some x) (c_a0 : ∀ p ∈ ([[]] : List (List Nat)), ¬ rch (mm_P ((fun (q : Int32 × Mm) => q.2) s16)) a0 p q) : mm_L (sm (fun (q : Int32 × Mm) => q.2) (sm (fun (q : Mm) => q) (fun (q : Mm) => q)) x) q = mm_L ((fun (q : Int32 × Mm) => q.2) s16) q := by
  have hi : mm_L ((fun (q : Int32 × Mm) => q.2) s16) q = mm_L ((fun (q : Int32 × Mm) => q.2) s16) q := rfl
  have hp : mm_P ((fun (q : Int32 × Mm) => q.2) s16) = mm_P ((fun (q : Int32 × Mm) => q.2) s16) := rfl
  have r_a0 : rch (mm_P ((fun (q : Int32 × Mm) => q.2) s16)) a0 [] a0 := rfl
  rcases ite_e h with ⟨_, h⟩ | ⟨_, h⟩
  · have h := Option.some.inj h
    subst h
    exact hi
  · obtain ⟨x22, e22, h⟩ := bd h
    rcases ite_e h with ⟨_, h⟩ | ⟨_, h⟩
    · obtain ⟨x30, e30, h⟩ := bd h
      rcases ite_e h with ⟨_, h⟩ | ⟨_, h⟩
      · exact (j_X11_readBook_J54 h (rch_sub c_a0 r_a0 (by decide) hp)).trans hi
      · rcases ite_e h with ⟨_, h⟩ | ⟨_, h⟩
        · exact (j_X11_readBook_J54 h (rch_sub c_a0 r_a0 (by decide) hp)).trans hi
        · exact (j_X11_readBook_J54 h (rch_sub c_a0 r_a0 (by decide) hp)).trans hi
    · have h := Option.some.inj h
      subst h
      exact hi
theorem j_X11_readBook_W16 {a0 : Nat} {l1 : Int32} {s16 : Int32 × Mm} {b : (Mm) ⊕ (Mm)} {q : Nat} (h : whl (f_X11_readBook_L16 a0 l1) s16 = some b) (c_a0 : ∀ p ∈ ([[]] : List (List Nat)), ¬ rch (mm_P ((fun (q : Int32 × Mm) => q.2) s16)) a0 p q) : mm_L ((sm (fun (q : Mm) => q) (fun (q : Mm) => q)) b) q = mm_L ((fun (q : Int32 × Mm) => q.2) s16) q := by
  have key := whl_inv (P := fun s' => mm_L ((fun (q : Int32 × Mm) => q.2) s') q = mm_L ((fun (q : Int32 × Mm) => q.2) s16) q ∧ mm_P ((fun (q : Int32 × Mm) => q.2) s') = mm_P ((fun (q : Int32 × Mm) => q.2) s16)) (Q := fun b' => mm_L ((sm (fun (q : Mm) => q) (fun (q : Mm) => q)) b') q = mm_L ((fun (q : Int32 × Mm) => q.2) s16) q) (fun s' x hs1 hx => ?_) ⟨rfl, rfl⟩ h
  · exact key
  · obtain ⟨h1, hP⟩ := hs1
    have k1 := (j_X11_readBook_L16 hx (fun p hp hr => c_a0 p hp (by rw [← hP]; exact hr))).trans h1
    have k2 := (p_X11_readBook_L16 hx).trans hP
    cases x with
    | inl z => exact ⟨k1, k2⟩
    | inr z => exact k1
theorem j_X11_readBook_L6 {a0 : Nat} {s6 : Int32 × Mm} {x : ((Int32 × Mm) ⊕ ((Mm) ⊕ ((Mm) ⊕ (Int32 × Mm))))} {q : Nat} (h : f_X11_readBook_L6 a0 s6 = some x) (c_a0 : ∀ p ∈ ([[]] : List (List Nat)), ¬ rch (mm_P ((fun (q : Int32 × Mm) => q.2) s6)) a0 p q) : mm_L (sm (fun (q : Int32 × Mm) => q.2) (sm (fun (q : Mm) => q) (sm (fun (q : Mm) => q) (fun (q : Int32 × Mm) => q.2))) x) q = mm_L ((fun (q : Int32 × Mm) => q.2) s6) q := by
  have hi : mm_L ((fun (q : Int32 × Mm) => q.2) s6) q = mm_L ((fun (q : Int32 × Mm) => q.2) s6) q := rfl
  have hp : mm_P ((fun (q : Int32 × Mm) => q.2) s6) = mm_P ((fun (q : Int32 × Mm) => q.2) s6) := rfl
  have r_a0 : rch (mm_P ((fun (q : Int32 × Mm) => q.2) s6)) a0 [] a0 := rfl
  obtain ⟨x7, e7, h⟩ := bd h
  rcases ite_e h with ⟨_, h⟩ | ⟨_, h⟩
  · have h := Option.some.inj h
    subst h
    exact hi
  · obtain ⟨b16, w16, h⟩ := bd h
    have hi := (j_X11_readBook_W16 w16 (rch_sub c_a0 r_a0 (by decide) hp)).trans hi
    have hp := (p_X11_readBook_W16 w16).trans hp
    rcases b16 with b16 | b16
    · have h := Option.some.inj h
      subst h
      exact hi
    · exact (j_X11_readBook_J114 h (rch_sub c_a0 r_a0 (by decide) hp)).trans hi
theorem j_X11_readBook_W6 {a0 : Nat} {s6 : Int32 × Mm} {b : (Mm) ⊕ ((Mm) ⊕ (Int32 × Mm))} {q : Nat} (h : whl (f_X11_readBook_L6 a0) s6 = some b) (c_a0 : ∀ p ∈ ([[]] : List (List Nat)), ¬ rch (mm_P ((fun (q : Int32 × Mm) => q.2) s6)) a0 p q) : mm_L ((sm (fun (q : Mm) => q) (sm (fun (q : Mm) => q) (fun (q : Int32 × Mm) => q.2))) b) q = mm_L ((fun (q : Int32 × Mm) => q.2) s6) q := by
  have key := whl_inv (P := fun s' => mm_L ((fun (q : Int32 × Mm) => q.2) s') q = mm_L ((fun (q : Int32 × Mm) => q.2) s6) q ∧ mm_P ((fun (q : Int32 × Mm) => q.2) s') = mm_P ((fun (q : Int32 × Mm) => q.2) s6)) (Q := fun b' => mm_L ((sm (fun (q : Mm) => q) (sm (fun (q : Mm) => q) (fun (q : Int32 × Mm) => q.2))) b') q = mm_L ((fun (q : Int32 × Mm) => q.2) s6) q) (fun s' x hs1 hx => ?_) ⟨rfl, rfl⟩ h
  · exact key
  · obtain ⟨h1, hP⟩ := hs1
    have k1 := (j_X11_readBook_L6 hx (fun p hp hr => c_a0 p hp (by rw [← hP]; exact hr))).trans h1
    have k2 := (p_X11_readBook_L6 hx).trans hP
    cases x with
    | inl z => exact ⟨k1, k2⟩
    | inr z => exact k1
theorem j_X11_readBook {a0 : Nat} {μ : Mm} {x : (Int32 × Mm)} {q : Nat} (h : f_X11_readBook a0 μ = some x) (c_a0 : ∀ p ∈ ([[]] : List (List Nat)), ¬ rch (mm_P μ) a0 p q) : mm_L ((fun (q : (Int32 × Mm)) => q.2) x) q = mm_L μ q := by
  have hi : mm_L μ q = mm_L μ q := rfl
  have hp : mm_P μ = mm_P μ := rfl
  have r_a0 : rch (mm_P μ) a0 [] a0 := rfl
  obtain ⟨_, h⟩ := ite_p h
  obtain ⟨x1, e1, h⟩ := bd h
  have hi := (j_X11_takeTape e1 (rch_sub c_a0 r_a0 (by decide) hp)).trans hi
  have hp := (p_X11_takeTape e1).trans hp
  obtain ⟨b6, w6, h⟩ := bd h
  have hi := (j_X11_readBook_W6 w6 (rch_sub c_a0 r_a0 (by decide) hp)).trans hi
  have hp := (p_X11_readBook_W6 w6).trans hp
  rcases b6 with b6 | b6
  · have h := Option.some.inj h
    subst h
    exact hi
  · rcases b6 with b6 | b6
    · have h := Option.some.inj h
      subst h
      exact hi
    · have h := Option.some.inj h
      subst h
      exact hi
theorem j_X11_judge_L15 {a0 : Nat} {l1 : Int32} {s15 : Int32 × Mm} {x : ((Int32 × Mm) ⊕ ((Int32 × Mm) ⊕ ((Int32 × Mm) ⊕ (Mm))))} {q : Nat} (h : f_X11_judge_L15 a0 l1 s15 = some x)  : mm_L (sm (fun (q : Int32 × Mm) => q.2) (sm (fun (q : Int32 × Mm) => q.2) (sm (fun (q : Int32 × Mm) => q.2) (fun (q : Mm) => q))) x) q = mm_L ((fun (q : Int32 × Mm) => q.2) s15) q := by
  have hi : mm_L ((fun (q : Int32 × Mm) => q.2) s15) q = mm_L ((fun (q : Int32 × Mm) => q.2) s15) q := rfl
  have hp : mm_P ((fun (q : Int32 × Mm) => q.2) s15) = mm_P ((fun (q : Int32 × Mm) => q.2) s15) := rfl
  have r_a0 : rch (mm_P ((fun (q : Int32 × Mm) => q.2) s15)) a0 [] a0 := rfl
  rcases ite_e h with ⟨_, h⟩ | ⟨_, h⟩
  · have h := Option.some.inj h
    subst h
    exact hi
  · obtain ⟨x22, e22, h⟩ := bd h
    have r_x22 := rch_f r_a0 e22 hp
    obtain ⟨x26, e26, h⟩ := bd h
    obtain ⟨x27, e27, h⟩ := bd h
    rcases ite_e h with ⟨_, h⟩ | ⟨_, h⟩
    · have h := Option.some.inj h
      subst h
      exact hi
    · obtain ⟨x35, e35, h⟩ := bd h
      have r_x35 := rch_f r_a0 e35 hp
      obtain ⟨x39, e39, h⟩ := bd h
      obtain ⟨x40, e40, h⟩ := bd h
      rcases ite_e h with ⟨_, h⟩ | ⟨_, h⟩
      · have h := Option.some.inj h
        subst h
        exact hi
      · obtain ⟨x52, e52, h⟩ := bd h
        have r_x52 := rch_f r_a0 e52 hp
        obtain ⟨x56, e56, h⟩ := bd h
        obtain ⟨x59, e59, h⟩ := bd h
        obtain ⟨x61, e61, h⟩ := bd h
        have r_x61 := rch_f r_a0 e61 hp
        obtain ⟨x65, e65, h⟩ := bd h
        obtain ⟨x69, e69, h⟩ := bd h
        have hi := (j_X11_live e69 ).trans hi
        have hp := (p_X11_live e69).trans hp
        obtain ⟨x73, e73, h⟩ := bd h
        have r_x73 := rch_f r_a0 e73 hp
        obtain ⟨x77, e77, h⟩ := bd h
        have r_x77 := rch_f r_a0 e77 hp
        obtain ⟨x81, e81, h⟩ := bd h
        obtain ⟨x82, e82, h⟩ := bd h
        obtain ⟨x84, e84, h⟩ := bd h
        have r_x84 := rch_f r_a0 e84 hp
        obtain ⟨x88, e88, h⟩ := bd h
        rcases ite_e h with ⟨_, h⟩ | ⟨_, h⟩
        · have h := Option.some.inj h
          subst h
          exact hi
        · obtain ⟨v99, e99, h⟩ := bd h
          have h := Option.some.inj h
          subst h
          exact hi
theorem j_X11_judge_W15 {a0 : Nat} {l1 : Int32} {s15 : Int32 × Mm} {b : (Int32 × Mm) ⊕ ((Int32 × Mm) ⊕ (Mm))} {q : Nat} (h : whl (f_X11_judge_L15 a0 l1) s15 = some b)  : mm_L ((sm (fun (q : Int32 × Mm) => q.2) (sm (fun (q : Int32 × Mm) => q.2) (fun (q : Mm) => q))) b) q = mm_L ((fun (q : Int32 × Mm) => q.2) s15) q := by
  have key := whl_inv (P := fun s' => mm_L ((fun (q : Int32 × Mm) => q.2) s') q = mm_L ((fun (q : Int32 × Mm) => q.2) s15) q ∧ mm_P ((fun (q : Int32 × Mm) => q.2) s') = mm_P ((fun (q : Int32 × Mm) => q.2) s15)) (Q := fun b' => mm_L ((sm (fun (q : Int32 × Mm) => q.2) (sm (fun (q : Int32 × Mm) => q.2) (fun (q : Mm) => q))) b') q = mm_L ((fun (q : Int32 × Mm) => q.2) s15) q) (fun s' x hs1 hx => ?_) ⟨rfl, rfl⟩ h
  · exact key
  · obtain ⟨h1, hP⟩ := hs1
    have k1 := (j_X11_judge_L15 hx ).trans h1
    have k2 := (p_X11_judge_L15 hx).trans hP
    cases x with
    | inl z => exact ⟨k1, k2⟩
    | inr z => exact k1
theorem j_X11_judge {a0 : Nat} {μ : Mm} {x : (Int32 × Mm)} {q : Nat} (h : f_X11_judge a0 μ = some x) (c_a0 : ∀ p ∈ ([[]] : List (List Nat)), ¬ rch (mm_P μ) a0 p q) : mm_L ((fun (q : (Int32 × Mm)) => q.2) x) q = mm_L μ q := by
  have hi : mm_L μ q = mm_L μ q := rfl
  have hp : mm_P μ = mm_P μ := rfl
  have r_a0 : rch (mm_P μ) a0 [] a0 := rfl
  obtain ⟨_, h⟩ := ite_p h
  obtain ⟨x1, e1, h⟩ := bd h
  have hi := (j_X11_readBook e1 (rch_sub c_a0 r_a0 (by decide) hp)).trans hi
  have hp := (p_X11_readBook e1).trans hp
  rcases ite_e h with ⟨_, h⟩ | ⟨_, h⟩
  · obtain ⟨b15, w15, h⟩ := bd h
    have hi := (j_X11_judge_W15 w15 ).trans hi
    have hp := (p_X11_judge_W15 w15).trans hp
    rcases b15 with b15 | b15
    · have h := Option.some.inj h
      subst h
      exact hi
    · rcases b15 with b15 | b15
      · have h := Option.some.inj h
        subst h
        exact hi
      · have h := Option.some.inj h
        subst h
        exact hi
  · have h := Option.some.inj h
    subst h
    exact hi
theorem j_X11_keep_J90 {a0 : Nat} {μ : Mm} {x : (Int32 × Mm)} {q : Nat} (h : f_X11_keep_J90 a0 μ = some x)  : mm_L ((fun (q : (Int32 × Mm)) => q.2) x) q = mm_L μ q := by
  have hi : mm_L μ q = mm_L μ q := rfl
  have hp : mm_P μ = mm_P μ := rfl
  have r_a0 : rch (mm_P μ) a0 [] a0 := rfl
  obtain ⟨x91, e91, h⟩ := bd h
  have h := Option.some.inj h
  subst h
  exact hi
theorem j_X11_keep_L59 {a0 : Nat} {l1 : Int32} {s59 : Int32 × Mm} {x : ((Int32 × Mm) ⊕ (Mm))} {q : Nat} (h : f_X11_keep_L59 a0 l1 s59 = some x)  : mm_L (sm (fun (q : Int32 × Mm) => q.2) (fun (q : Mm) => q) x) q = mm_L ((fun (q : Int32 × Mm) => q.2) s59) q := by
  have hi : mm_L ((fun (q : Int32 × Mm) => q.2) s59) q = mm_L ((fun (q : Int32 × Mm) => q.2) s59) q := rfl
  have hp : mm_P ((fun (q : Int32 × Mm) => q.2) s59) = mm_P ((fun (q : Int32 × Mm) => q.2) s59) := rfl
  have r_a0 : rch (mm_P ((fun (q : Int32 × Mm) => q.2) s59)) a0 [] a0 := rfl
  rcases ite_e h with ⟨_, h⟩ | ⟨_, h⟩
  · have h := Option.some.inj h
    subst h
    exact hi
  · obtain ⟨x66, e66, h⟩ := bd h
    have r_x66 := rch_f r_a0 e66 hp
    obtain ⟨x78, e78, h⟩ := bd h
    have r_x78 := rch_f r_a0 e78 hp
    obtain ⟨x82, e82, h⟩ := bd h
    obtain ⟨μ83, e83, h⟩ := bd h
    have hi := (kj_paI e83).trans hi
    have hp := (kp_paI e83).trans hp
    obtain ⟨v84, e84, h⟩ := bd h
    have h := Option.some.inj h
    subst h
    exact hi
theorem j_X11_keep_W59 {a0 : Nat} {l1 : Int32} {s59 : Int32 × Mm} {b : Mm} {q : Nat} (h : whl (f_X11_keep_L59 a0 l1) s59 = some b)  : mm_L ((fun (q : Mm) => q) b) q = mm_L ((fun (q : Int32 × Mm) => q.2) s59) q := by
  have key := whl_inv (P := fun s' => mm_L ((fun (q : Int32 × Mm) => q.2) s') q = mm_L ((fun (q : Int32 × Mm) => q.2) s59) q ∧ mm_P ((fun (q : Int32 × Mm) => q.2) s') = mm_P ((fun (q : Int32 × Mm) => q.2) s59)) (Q := fun b' => mm_L ((fun (q : Mm) => q) b') q = mm_L ((fun (q : Int32 × Mm) => q.2) s59) q) (fun s' x hs1 hx => ?_) ⟨rfl, rfl⟩ h
  · exact key
  · obtain ⟨h1, hP⟩ := hs1
    have k1 := (j_X11_keep_L59 hx ).trans h1
    have k2 := (p_X11_keep_L59 hx).trans hP
    cases x with
    | inl z => exact ⟨k1, k2⟩
    | inr z => exact k1
theorem j_X11_keep {a0 : Nat} {l1 : Int32} {μ : Mm} {x : (Int32 × Mm)} {q : Nat} (h : f_X11_keep a0 l1 μ = some x) (c_a0 : ∀ p ∈ ([[71]] : List (List Nat)), ¬ rch (mm_P μ) a0 p q) : mm_L ((fun (q : (Int32 × Mm)) => q.2) x) q = mm_L μ q := by
  have hi : mm_L μ q = mm_L μ q := rfl
  have hp : mm_P μ = mm_P μ := rfl
  have r_a0 : rch (mm_P μ) a0 [] a0 := rfl
  obtain ⟨_, h⟩ := ite_p h
  obtain ⟨x1, e1, h⟩ := bd h
  rcases ite_e h with ⟨_, h⟩ | ⟨_, h⟩
  · have h := Option.some.inj h
    subst h
    exact hi
  · obtain ⟨x11, e11, h⟩ := bd h
    rcases ite_e h with ⟨_, h⟩ | ⟨_, h⟩
    · have h := Option.some.inj h
      subst h
      exact hi
    · obtain ⟨x21, e21, h⟩ := bd h
      have r_x21 := rch_f r_a0 e21 hp
      obtain ⟨μ26, e26, h⟩ := bd h
      have hi := (kj_paZ e26).trans hi
      have hp := (kp_paZ e26).trans hp
      obtain ⟨x28, e28, h⟩ := bd h
      have r_x28 := rch_f r_a0 e28 hp
      obtain ⟨x33, e33, h⟩ := bd h
      obtain ⟨μ36, e36, h⟩ := bd h
      have hi := (kj_paI e36).trans hi
      have hp := (kp_paI e36).trans hp
      obtain ⟨x38, e38, h⟩ := bd h
      have r_x38 := rch_f r_a0 e38 hp
      obtain ⟨x43, e43, h⟩ := bd h
      obtain ⟨μ46, e46, h⟩ := bd h
      have hi := (kj_paI e46).trans hi
      have hp := (kp_paI e46).trans hp
      obtain ⟨x48, e48, h⟩ := bd h
      have r_x48 := rch_f r_a0 e48 hp
      obtain ⟨x53, e53, h⟩ := bd h
      obtain ⟨μ56, e56, h⟩ := bd h
      have hi := (kj_paL e56 (rch_ne c_a0 (by decide) r_x48)).trans hi
      have hp := (kp_paL e56).trans hp
      obtain ⟨b59, w59, h⟩ := bd h
      have hi := (j_X11_keep_W59 w59 ).trans hi
      have hp := (p_X11_keep_W59 w59).trans hp
      exact (j_X11_keep_J90 h ).trans hi
theorem j_X11_kept_J113 {a0 : Nat} {l4 : Int32} {μ : Mm} {x : (Int32 × Mm)} {q : Nat} (h : f_X11_kept_J113 a0 l4 μ = some x)  : mm_L ((fun (q : (Int32 × Mm)) => q.2) x) q = mm_L μ q := by
  have hi : mm_L μ q = mm_L μ q := rfl
  have hp : mm_P μ = mm_P μ := rfl
  have r_a0 : rch (mm_P μ) a0 [] a0 := rfl
  obtain ⟨μ115, e115, h⟩ := bd h
  have hi := (kj_pfI e115).trans hi
  have hp := (kp_pfI e115).trans hp
  have h := Option.some.inj h
  subst h
  exact hi
theorem j_X11_kept_J107 {a0 : Nat} {l1 : Int32} {l2 : Int32} {l3 : Int32} {l4 : Int32} {l5 : Int32} {μ : Mm} {x : ((Int32 × Int32 × Mm) ⊕ (Int32 × Mm))} {q : Nat} (h : f_X11_kept_J107 a0 l1 l2 l3 l4 l5 μ = some x)  : mm_L ((sm (fun (q : Int32 × Int32 × Mm) => q.2.2) (fun (q : Int32 × Mm) => q.2)) x) q = mm_L μ q := by
  have hi : mm_L μ q = mm_L μ q := rfl
  have hp : mm_P μ = mm_P μ := rfl
  have r_a0 : rch (mm_P μ) a0 [] a0 := rfl
  obtain ⟨v107, e107, h⟩ := bd h
  have h := Option.some.inj h
  subst h
  exact hi
theorem j_X11_kept_J67 {a0 : Nat} {l1 : Int32} {l2 : Int32} {l3 : Int32} {l4 : Int32} {l5 : Int32} {μ : Mm} {x : ((Int32 × Int32 × Mm) ⊕ (Int32 × Mm))} {q : Nat} (h : f_X11_kept_J67 a0 l1 l2 l3 l4 l5 μ = some x)  : mm_L ((sm (fun (q : Int32 × Int32 × Mm) => q.2.2) (fun (q : Int32 × Mm) => q.2)) x) q = mm_L μ q := by
  have hi : mm_L μ q = mm_L μ q := rfl
  have hp : mm_P μ = mm_P μ := rfl
  have r_a0 : rch (mm_P μ) a0 [] a0 := rfl
  obtain ⟨μ70, e70, h⟩ := bd h
  have hi := (kj_pfI e70).trans hi
  have hp := (kp_pfI e70).trans hp
  obtain ⟨x75, e75, h⟩ := bd h
  have r_x75 := rch_f r_a0 e75 hp
  obtain ⟨x79, e79, h⟩ := bd h
  obtain ⟨x82, e82, h⟩ := bd h
  obtain ⟨x87, e87, h⟩ := bd h
  have hi := (j_X11_live e87 ).trans hi
  have hp := (p_X11_live e87).trans hp
  obtain ⟨x91, e91, h⟩ := bd h
  have r_x91 := rch_f r_a0 e91 hp
  obtain ⟨x95, e95, h⟩ := bd h
  rcases ite_e h with ⟨_, h⟩ | ⟨_, h⟩
  · exact (j_X11_kept_J107 h ).trans hi
  · exact (j_X11_kept_J107 h ).trans hi
theorem j_X11_kept_L32 {a0 : Nat} {l1 : Int32} {l2 : Int32} {l3 : Int32} {s32 : Int32 × Int32 × Mm} {x : ((Int32 × Int32 × Mm) ⊕ (Int32 × Mm))} {q : Nat} (h : f_X11_kept_L32 a0 l1 l2 l3 s32 = some x)  : mm_L (sm (fun (q : Int32 × Int32 × Mm) => q.2.2) (fun (q : Int32 × Mm) => q.2) x) q = mm_L ((fun (q : Int32 × Int32 × Mm) => q.2.2) s32) q := by
  have hi : mm_L ((fun (q : Int32 × Int32 × Mm) => q.2.2) s32) q = mm_L ((fun (q : Int32 × Int32 × Mm) => q.2.2) s32) q := rfl
  have hp : mm_P ((fun (q : Int32 × Int32 × Mm) => q.2.2) s32) = mm_P ((fun (q : Int32 × Int32 × Mm) => q.2.2) s32) := rfl
  have r_a0 : rch (mm_P ((fun (q : Int32 × Int32 × Mm) => q.2.2) s32)) a0 [] a0 := rfl
  obtain ⟨x36, e36, h⟩ := bd h
  have r_x36 := rch_f r_a0 e36 hp
  obtain ⟨x40, e40, h⟩ := bd h
  rcases ite_e h with ⟨_, h⟩ | ⟨_, h⟩
  · have h := Option.some.inj h
    subst h
    exact hi
  · rcases ite_e h with ⟨_, h⟩ | ⟨_, h⟩
    · exact (j_X11_kept_J67 h ).trans hi
    · obtain ⟨x53, e53, h⟩ := bd h
      obtain ⟨x58, e58, h⟩ := bd h
      rcases ite_e h with ⟨_, h⟩ | ⟨_, h⟩
      · exact (j_X11_kept_J67 h ).trans hi
      · exact (j_X11_kept_J107 h ).trans hi
theorem j_X11_kept_W32 {a0 : Nat} {l1 : Int32} {l2 : Int32} {l3 : Int32} {s32 : Int32 × Int32 × Mm} {b : Int32 × Mm} {q : Nat} (h : whl (f_X11_kept_L32 a0 l1 l2 l3) s32 = some b)  : mm_L ((fun (q : Int32 × Mm) => q.2) b) q = mm_L ((fun (q : Int32 × Int32 × Mm) => q.2.2) s32) q := by
  have key := whl_inv (P := fun s' => mm_L ((fun (q : Int32 × Int32 × Mm) => q.2.2) s') q = mm_L ((fun (q : Int32 × Int32 × Mm) => q.2.2) s32) q ∧ mm_P ((fun (q : Int32 × Int32 × Mm) => q.2.2) s') = mm_P ((fun (q : Int32 × Int32 × Mm) => q.2.2) s32)) (Q := fun b' => mm_L ((fun (q : Int32 × Mm) => q.2) b') q = mm_L ((fun (q : Int32 × Int32 × Mm) => q.2.2) s32) q) (fun s' x hs1 hx => ?_) ⟨rfl, rfl⟩ h
  · exact key
  · obtain ⟨h1, hP⟩ := hs1
    have k1 := (j_X11_kept_L32 hx ).trans h1
    have k2 := (p_X11_kept_L32 hx).trans hP
    cases x with
    | inl z => exact ⟨k1, k2⟩
    | inr z => exact k1
theorem j_X11_kept {a0 : Nat} {l1 : Int32} {l2 : Int32} {l3 : Int32} {μ : Mm} {x : (Int32 × Mm)} {q : Nat} (h : f_X11_kept a0 l1 l2 l3 μ = some x)  : mm_L ((fun (q : (Int32 × Mm)) => q.2) x) q = mm_L μ q := by
  have hi : mm_L μ q = mm_L μ q := rfl
  have hp : mm_P μ = mm_P μ := rfl
  have r_a0 : rch (mm_P μ) a0 [] a0 := rfl
  obtain ⟨_, h⟩ := ite_p h
  obtain ⟨x2, e2, h⟩ := bd h
  rcases ite_e h with ⟨_, h⟩ | ⟨_, h⟩
  · have h := Option.some.inj h
    subst h
    exact hi
  · obtain ⟨x10, e10, h⟩ := bd h
    rcases ite_e h with ⟨_, h⟩ | ⟨_, h⟩
    · have h := Option.some.inj h
      subst h
      exact hi
    · obtain ⟨x17, e17, h⟩ := bd h
      rcases ite_e h with ⟨_, h⟩ | ⟨_, h⟩
      · have h := Option.some.inj h
        subst h
        exact hi
      · obtain ⟨b32, w32, h⟩ := bd h
        have hi := (j_X11_kept_W32 w32 ).trans hi
        have hp := (p_X11_kept_W32 w32).trans hp
        exact (j_X11_kept_J113 h ).trans hi
theorem j_X11_knowers_J163 {l4 : Int32} {l5 : Int32} {l6 : Int32} {l7 : Int32} {μ : Mm} {x : (Int32 × Mm)} {q : Nat} (h : f_X11_knowers_J163 l4 l5 l6 l7 μ = some x)  : mm_L ((fun (q : (Int32 × Mm)) => q.2) x) q = mm_L μ q := by
  have hi : mm_L μ q = mm_L μ q := rfl
  have hp : mm_P μ = mm_P μ := rfl
  rcases ite_e h with ⟨_, h⟩ | ⟨_, h⟩
  · have h := Option.some.inj h
    subst h
    exact hi
  · rcases ite_e h with ⟨_, h⟩ | ⟨_, h⟩
    · have h := Option.some.inj h
      subst h
      exact hi
    · have h := Option.some.inj h
      subst h
      exact hi
theorem j_X11_knowers_J157 {a0 : Nat} {l1 : Int32} {l2 : Int32} {l4 : Int32} {l5 : Int32} {l6 : Int32} {l7 : Int32} {l8 : Int32} {μ : Mm} {x : ((Int32 × Int32 × Int32 × Int32 × Mm) ⊕ (Int32 × Int32 × Int32 × Mm))} {q : Nat} (h : f_X11_knowers_J157 a0 l1 l2 l4 l5 l6 l7 l8 μ = some x)  : mm_L ((sm (fun (q : Int32 × Int32 × Int32 × Int32 × Mm) => q.2.2.2.2) (fun (q : Int32 × Int32 × Int32 × Mm) => q.2.2.2)) x) q = mm_L μ q := by
  have hi : mm_L μ q = mm_L μ q := rfl
  have hp : mm_P μ = mm_P μ := rfl
  have r_a0 : rch (mm_P μ) a0 [] a0 := rfl
  obtain ⟨v157, e157, h⟩ := bd h
  have h := Option.some.inj h
  subst h
  exact hi
theorem j_X11_knowers_J143 {a0 : Nat} {l1 : Int32} {l2 : Int32} {l4 : Int32} {l5 : Int32} {l6 : Int32} {l7 : Int32} {l8 : Int32} {l9 : Int32} {μ : Mm} {x : ((Int32 × Int32 × Int32 × Int32 × Mm) ⊕ (Int32 × Int32 × Int32 × Mm))} {q : Nat} (h : f_X11_knowers_J143 a0 l1 l2 l4 l5 l6 l7 l8 l9 μ = some x)  : mm_L ((sm (fun (q : Int32 × Int32 × Int32 × Int32 × Mm) => q.2.2.2.2) (fun (q : Int32 × Int32 × Int32 × Mm) => q.2.2.2)) x) q = mm_L μ q := by
  have hi : mm_L μ q = mm_L μ q := rfl
  have hp : mm_P μ = mm_P μ := rfl
  have r_a0 : rch (mm_P μ) a0 [] a0 := rfl
  obtain ⟨v148, e148, h⟩ := bd h
  obtain ⟨v155, e155, h⟩ := bd h
  exact (j_X11_knowers_J157 h ).trans hi
theorem j_X11_knowers_L62 {a0 : Nat} {l1 : Int32} {l2 : Int32} {l4 : Int32} {s62 : Int32 × Int32 × Int32 × Int32 × Mm} {x : ((Int32 × Int32 × Int32 × Int32 × Mm) ⊕ (Int32 × Int32 × Int32 × Mm))} {q : Nat} (h : f_X11_knowers_L62 a0 l1 l2 l4 s62 = some x)  : mm_L (sm (fun (q : Int32 × Int32 × Int32 × Int32 × Mm) => q.2.2.2.2) (fun (q : Int32 × Int32 × Int32 × Mm) => q.2.2.2) x) q = mm_L ((fun (q : Int32 × Int32 × Int32 × Int32 × Mm) => q.2.2.2.2) s62) q := by
  have hi : mm_L ((fun (q : Int32 × Int32 × Int32 × Int32 × Mm) => q.2.2.2.2) s62) q = mm_L ((fun (q : Int32 × Int32 × Int32 × Int32 × Mm) => q.2.2.2.2) s62) q := rfl
  have hp : mm_P ((fun (q : Int32 × Int32 × Int32 × Int32 × Mm) => q.2.2.2.2) s62) = mm_P ((fun (q : Int32 × Int32 × Int32 × Int32 × Mm) => q.2.2.2.2) s62) := rfl
  have r_a0 : rch (mm_P ((fun (q : Int32 × Int32 × Int32 × Int32 × Mm) => q.2.2.2.2) s62)) a0 [] a0 := rfl
  obtain ⟨x65, e65, h⟩ := bd h
  rcases ite_e h with ⟨_, h⟩ | ⟨_, h⟩
  · have h := Option.some.inj h
    subst h
    exact hi
  · obtain ⟨x74, e74, h⟩ := bd h
    rcases ite_e h with ⟨_, h⟩ | ⟨_, h⟩
    · exact (j_X11_knowers_J157 h ).trans hi
    · obtain ⟨x88, e88, h⟩ := bd h
      have r_x88 := rch_f r_a0 e88 hp
      obtain ⟨x93, e93, h⟩ := bd h
      obtain ⟨x98, e98, h⟩ := bd h
      have hi := (j_X11_live e98 ).trans hi
      have hp := (p_X11_live e98).trans hp
      obtain ⟨b107, w107, h⟩ := bd h
      exact (j_X11_knowers_J143 h ).trans hi
theorem j_X11_knowers_W62 {a0 : Nat} {l1 : Int32} {l2 : Int32} {l4 : Int32} {s62 : Int32 × Int32 × Int32 × Int32 × Mm} {b : Int32 × Int32 × Int32 × Mm} {q : Nat} (h : whl (f_X11_knowers_L62 a0 l1 l2 l4) s62 = some b)  : mm_L ((fun (q : Int32 × Int32 × Int32 × Mm) => q.2.2.2) b) q = mm_L ((fun (q : Int32 × Int32 × Int32 × Int32 × Mm) => q.2.2.2.2) s62) q := by
  have key := whl_inv (P := fun s' => mm_L ((fun (q : Int32 × Int32 × Int32 × Int32 × Mm) => q.2.2.2.2) s') q = mm_L ((fun (q : Int32 × Int32 × Int32 × Int32 × Mm) => q.2.2.2.2) s62) q ∧ mm_P ((fun (q : Int32 × Int32 × Int32 × Int32 × Mm) => q.2.2.2.2) s') = mm_P ((fun (q : Int32 × Int32 × Int32 × Int32 × Mm) => q.2.2.2.2) s62)) (Q := fun b' => mm_L ((fun (q : Int32 × Int32 × Int32 × Mm) => q.2.2.2) b') q = mm_L ((fun (q : Int32 × Int32 × Int32 × Int32 × Mm) => q.2.2.2.2) s62) q) (fun s' x hs1 hx => ?_) ⟨rfl, rfl⟩ h
  · exact key
  · obtain ⟨h1, hP⟩ := hs1
    have k1 := (j_X11_knowers_L62 hx ).trans h1
    have k2 := (p_X11_knowers_L62 hx).trans hP
    cases x with
    | inl z => exact ⟨k1, k2⟩
    | inr z => exact k1
theorem j_X11_knowers {a0 : Nat} {l1 : Int32} {l2 : Int32} {l3 : Int32} {l4 : Int32} {μ : Mm} {x : (Int32 × Mm)} {q : Nat} (h : f_X11_knowers a0 l1 l2 l3 l4 μ = some x) (c_a0 : ∀ p ∈ ([[57]] : List (List Nat)), ¬ rch (mm_P μ) a0 p q) : mm_L ((fun (q : (Int32 × Mm)) => q.2) x) q = mm_L μ q := by
  have hi : mm_L μ q = mm_L μ q := rfl
  have hp : mm_P μ = mm_P μ := rfl
  have r_a0 : rch (mm_P μ) a0 [] a0 := rfl
  obtain ⟨_, h⟩ := ite_p h
  obtain ⟨x2, e2, h⟩ := bd h
  rcases ite_e h with ⟨_, h⟩ | ⟨_, h⟩
  · have h := Option.some.inj h
    subst h
    exact hi
  · obtain ⟨x9, e9, h⟩ := bd h
    rcases ite_e h with ⟨_, h⟩ | ⟨_, h⟩
    · have h := Option.some.inj h
      subst h
      exact hi
    · obtain ⟨x16, e16, h⟩ := bd h
      rcases ite_e h with ⟨_, h⟩ | ⟨_, h⟩
      · have h := Option.some.inj h
        subst h
        exact hi
      · obtain ⟨x26, e26, h⟩ := bd h
        rcases ite_e h with ⟨_, h⟩ | ⟨_, h⟩
        · have h := Option.some.inj h
          subst h
          exact hi
        · obtain ⟨x37, e37, h⟩ := bd h
          have hi := (j_X11_findFits e37 (rch_sub c_a0 r_a0 (by decide) hp)).trans hi
          have hp := (p_X11_findFits e37).trans hp
          obtain ⟨x46, e46, h⟩ := bd h
          have r_x46 := rch_f r_a0 e46 hp
          obtain ⟨x50, e50, h⟩ := bd h
          obtain ⟨v54, e54, h⟩ := bd h
          obtain ⟨b62, w62, h⟩ := bd h
          have hi := (j_X11_knowers_W62 w62 ).trans hi
          have hp := (p_X11_knowers_W62 w62).trans hp
          exact (j_X11_knowers_J163 h ).trans hi
theorem j_X11_knows {a0 : Nat} {l1 : Int32} {l2 : Int32} {l3 : Int32} {μ : Mm} {x : (Int32 × Mm)} {q : Nat} (h : f_X11_knows a0 l1 l2 l3 μ = some x)  : mm_L ((fun (q : (Int32 × Mm)) => q.2) x) q = mm_L μ q := by
  have hi : mm_L μ q = mm_L μ q := rfl
  have hp : mm_P μ = mm_P μ := rfl
  have r_a0 : rch (mm_P μ) a0 [] a0 := rfl
  obtain ⟨_, h⟩ := ite_p h
  obtain ⟨x2, e2, h⟩ := bd h
  rcases ite_e h with ⟨_, h⟩ | ⟨_, h⟩
  · have h := Option.some.inj h
    subst h
    exact hi
  · obtain ⟨x9, e9, h⟩ := bd h
    rcases ite_e h with ⟨_, h⟩ | ⟨_, h⟩
    · have h := Option.some.inj h
      subst h
      exact hi
    · obtain ⟨x16, e16, h⟩ := bd h
      rcases ite_e h with ⟨_, h⟩ | ⟨_, h⟩
      · have h := Option.some.inj h
        subst h
        exact hi
      · obtain ⟨x27, e27, h⟩ := bd h
        have r_x27 := rch_f r_a0 e27 hp
        obtain ⟨x31, e31, h⟩ := bd h
        obtain ⟨x34, e34, h⟩ := bd h
        obtain ⟨x38, e38, h⟩ := bd h
        have hi := (j_X11_live e38 ).trans hi
        have hp := (p_X11_live e38).trans hp
        obtain ⟨x42, e42, h⟩ := bd h
        have r_x42 := rch_f r_a0 e42 hp
        obtain ⟨x46, e46, h⟩ := bd h
        have h := Option.some.inj h
        subst h
        exact hi
theorem j_X11_lot_J114 {a0 : Nat} {l5 : Int32} {k0 : Int32} {μ : Mm} {x : (Int32 × Mm)} {q : Nat} (h : f_X11_lot_J114 a0 l5 k0 μ = some x)  : mm_L ((fun (q : (Int32 × Mm)) => q.2) x) q = mm_L μ q := by
  have hi : mm_L μ q = mm_L μ q := rfl
  have hp : mm_P μ = mm_P μ := rfl
  have r_a0 : rch (mm_P μ) a0 [] a0 := rfl
  obtain ⟨x117, e117, h⟩ := bd h
  obtain ⟨x120, e120, h⟩ := bd h
  obtain ⟨_, h⟩ := ite_n h
  have h := Option.some.inj h
  subst h
  exact hi
theorem j_X11_lot_J100 {a0 : Nat} {l4 : Int32} {l5 : Int32} {μ : Mm} {x : (Int32 × Mm)} {q : Nat} (h : f_X11_lot_J100 a0 l4 l5 μ = some x)  : mm_L ((fun (q : (Int32 × Mm)) => q.2) x) q = mm_L μ q := by
  have hi : mm_L μ q = mm_L μ q := rfl
  have hp : mm_P μ = mm_P μ := rfl
  have r_a0 : rch (mm_P μ) a0 [] a0 := rfl
  rcases ite_e h with ⟨_, h⟩ | ⟨_, h⟩
  · exact (j_X11_lot_J114 h ).trans hi
  · obtain ⟨x106, e106, h⟩ := bd h
    exact (j_X11_lot_J114 h ).trans hi
theorem j_X11_lot_J91 {a0 : Nat} {l1 : Int32} {l2 : Int32} {l3 : Int32} {l4 : Int32} {l6 : Int32} {k0 : Int32} {k1 : Int32} {μ : Mm} {x : ((Int32 × Int32 × Mm) ⊕ (Int32 × Mm))} {q : Nat} (h : f_X11_lot_J91 a0 l1 l2 l3 l4 l6 k0 k1 μ = some x)  : mm_L ((sm (fun (q : Int32 × Int32 × Mm) => q.2.2) (fun (q : Int32 × Mm) => q.2)) x) q = mm_L μ q := by
  have hi : mm_L μ q = mm_L μ q := rfl
  have hp : mm_P μ = mm_P μ := rfl
  have r_a0 : rch (mm_P μ) a0 [] a0 := rfl
  obtain ⟨v92, e92, h⟩ := bd h
  obtain ⟨v94, e94, h⟩ := bd h
  have h := Option.some.inj h
  subst h
  exact hi
theorem j_X11_lot_L33 {a0 : Nat} {l1 : Int32} {l2 : Int32} {l3 : Int32} {l4 : Int32} {s33 : Int32 × Int32 × Mm} {x : ((Int32 × Int32 × Mm) ⊕ (Int32 × Mm))} {q : Nat} (h : f_X11_lot_L33 a0 l1 l2 l3 l4 s33 = some x)  : mm_L (sm (fun (q : Int32 × Int32 × Mm) => q.2.2) (fun (q : Int32 × Mm) => q.2) x) q = mm_L ((fun (q : Int32 × Int32 × Mm) => q.2.2) s33) q := by
  have hi : mm_L ((fun (q : Int32 × Int32 × Mm) => q.2.2) s33) q = mm_L ((fun (q : Int32 × Int32 × Mm) => q.2.2) s33) q := rfl
  have hp : mm_P ((fun (q : Int32 × Int32 × Mm) => q.2.2) s33) = mm_P ((fun (q : Int32 × Int32 × Mm) => q.2.2) s33) := rfl
  have r_a0 : rch (mm_P ((fun (q : Int32 × Int32 × Mm) => q.2.2) s33)) a0 [] a0 := rfl
  obtain ⟨x36, e36, h⟩ := bd h
  rcases ite_e h with ⟨_, h⟩ | ⟨_, h⟩
  · have h := Option.some.inj h
    subst h
    exact hi
  · obtain ⟨x44, e44, h⟩ := bd h
    have r_x44 := rch_f r_a0 e44 hp
    obtain ⟨x49, e49, h⟩ := bd h
    obtain ⟨x54, e54, h⟩ := bd h
    have hi := (j_X11_live e54 ).trans hi
    have hp := (p_X11_live e54).trans hp
    obtain ⟨x59, e59, h⟩ := bd h
    rcases ite_e h with ⟨_, h⟩ | ⟨_, h⟩
    · exact (j_X11_lot_J91 h ).trans hi
    · obtain ⟨x78, e78, h⟩ := bd h
      have r_x78 := rch_f r_a0 e78 hp
      obtain ⟨x82, e82, h⟩ := bd h
      rcases ite_e h with ⟨_, h⟩ | ⟨_, h⟩
      · exact (j_X11_lot_J91 h ).trans hi
      · exact (j_X11_lot_J91 h ).trans hi
theorem j_X11_lot_W33 {a0 : Nat} {l1 : Int32} {l2 : Int32} {l3 : Int32} {l4 : Int32} {s33 : Int32 × Int32 × Mm} {b : Int32 × Mm} {q : Nat} (h : whl (f_X11_lot_L33 a0 l1 l2 l3 l4) s33 = some b)  : mm_L ((fun (q : Int32 × Mm) => q.2) b) q = mm_L ((fun (q : Int32 × Int32 × Mm) => q.2.2) s33) q := by
  have key := whl_inv (P := fun s' => mm_L ((fun (q : Int32 × Int32 × Mm) => q.2.2) s') q = mm_L ((fun (q : Int32 × Int32 × Mm) => q.2.2) s33) q ∧ mm_P ((fun (q : Int32 × Int32 × Mm) => q.2.2) s') = mm_P ((fun (q : Int32 × Int32 × Mm) => q.2.2) s33)) (Q := fun b' => mm_L ((fun (q : Int32 × Mm) => q.2) b') q = mm_L ((fun (q : Int32 × Int32 × Mm) => q.2.2) s33) q) (fun s' x hs1 hx => ?_) ⟨rfl, rfl⟩ h
  · exact key
  · obtain ⟨h1, hP⟩ := hs1
    have k1 := (j_X11_lot_L33 hx ).trans h1
    have k2 := (p_X11_lot_L33 hx).trans hP
    cases x with
    | inl z => exact ⟨k1, k2⟩
    | inr z => exact k1
theorem j_X11_lot {a0 : Nat} {l1 : Int32} {l2 : Int32} {l3 : Int32} {l4 : Int32} {μ : Mm} {x : (Int32 × Mm)} {q : Nat} (h : f_X11_lot a0 l1 l2 l3 l4 μ = some x)  : mm_L ((fun (q : (Int32 × Mm)) => q.2) x) q = mm_L μ q := by
  have hi : mm_L μ q = mm_L μ q := rfl
  have hp : mm_P μ = mm_P μ := rfl
  have r_a0 : rch (mm_P μ) a0 [] a0 := rfl
  obtain ⟨_, h⟩ := ite_p h
  obtain ⟨x2, e2, h⟩ := bd h
  rcases ite_e h with ⟨_, h⟩ | ⟨_, h⟩
  · have h := Option.some.inj h
    subst h
    exact hi
  · obtain ⟨x9, e9, h⟩ := bd h
    rcases ite_e h with ⟨_, h⟩ | ⟨_, h⟩
    · have h := Option.some.inj h
      subst h
      exact hi
    · obtain ⟨x18, e18, h⟩ := bd h
      rcases ite_e h with ⟨_, h⟩ | ⟨_, h⟩
      · have h := Option.some.inj h
        subst h
        exact hi
      · obtain ⟨b33, w33, h⟩ := bd h
        have hi := (j_X11_lot_W33 w33 ).trans hi
        have hp := (p_X11_lot_W33 w33).trans hp
        exact (j_X11_lot_J100 h ).trans hi
theorem j_X11_allDay_L7 {a0 : Nat} {l1 : Int64} {l3 : Int32} {s7 : Int32 × Mm} {x : ((Int32 × Mm) ⊕ ((Int32 × Mm) ⊕ (Mm)))} {q : Nat} (h : f_X11_allDay_L7 a0 l1 l3 s7 = some x)  : mm_L (sm (fun (q : Int32 × Mm) => q.2) (sm (fun (q : Int32 × Mm) => q.2) (fun (q : Mm) => q)) x) q = mm_L ((fun (q : Int32 × Mm) => q.2) s7) q := by
  have hi : mm_L ((fun (q : Int32 × Mm) => q.2) s7) q = mm_L ((fun (q : Int32 × Mm) => q.2) s7) q := rfl
  have hp : mm_P ((fun (q : Int32 × Mm) => q.2) s7) = mm_P ((fun (q : Int32 × Mm) => q.2) s7) := rfl
  have r_a0 : rch (mm_P ((fun (q : Int32 × Mm) => q.2) s7)) a0 [] a0 := rfl
  rcases ite_e h with ⟨_, h⟩ | ⟨_, h⟩
  · have h := Option.some.inj h
    subst h
    exact hi
  · obtain ⟨x20, e20, h⟩ := bd h
    have hi := (j_X11_byDay e20 ).trans hi
    have hp := (p_X11_byDay e20).trans hp
    obtain ⟨x29, e29, h⟩ := bd h
    have hi := (j_X11_byNight e29 ).trans hi
    have hp := (p_X11_byNight e29).trans hp
    obtain ⟨x34, e34, h⟩ := bd h
    obtain ⟨x38, e38, h⟩ := bd h
    have r_x38 := rch_f r_a0 e38 hp
    obtain ⟨x42, e42, h⟩ := bd h
    rcases ite_e h with ⟨_, h⟩ | ⟨_, h⟩
    · have h := Option.some.inj h
      subst h
      exact hi
    · obtain ⟨v49, e49, h⟩ := bd h
      have h := Option.some.inj h
      subst h
      exact hi
theorem j_X11_allDay_W7 {a0 : Nat} {l1 : Int64} {l3 : Int32} {s7 : Int32 × Mm} {b : (Int32 × Mm) ⊕ (Mm)} {q : Nat} (h : whl (f_X11_allDay_L7 a0 l1 l3) s7 = some b)  : mm_L ((sm (fun (q : Int32 × Mm) => q.2) (fun (q : Mm) => q)) b) q = mm_L ((fun (q : Int32 × Mm) => q.2) s7) q := by
  have key := whl_inv (P := fun s' => mm_L ((fun (q : Int32 × Mm) => q.2) s') q = mm_L ((fun (q : Int32 × Mm) => q.2) s7) q ∧ mm_P ((fun (q : Int32 × Mm) => q.2) s') = mm_P ((fun (q : Int32 × Mm) => q.2) s7)) (Q := fun b' => mm_L ((sm (fun (q : Int32 × Mm) => q.2) (fun (q : Mm) => q)) b') q = mm_L ((fun (q : Int32 × Mm) => q.2) s7) q) (fun s' x hs1 hx => ?_) ⟨rfl, rfl⟩ h
  · exact key
  · obtain ⟨h1, hP⟩ := hs1
    have k1 := (j_X11_allDay_L7 hx ).trans h1
    have k2 := (p_X11_allDay_L7 hx).trans hP
    cases x with
    | inl z => exact ⟨k1, k2⟩
    | inr z => exact k1
theorem j_X11_allDay {a0 : Nat} {l1 : Int64} {l3 : Int32} {μ : Mm} {x : (Int32 × Mm)} {q : Nat} (h : f_X11_allDay a0 l1 l3 μ = some x)  : mm_L ((fun (q : (Int32 × Mm)) => q.2) x) q = mm_L μ q := by
  have hi : mm_L μ q = mm_L μ q := rfl
  have hp : mm_P μ = mm_P μ := rfl
  have r_a0 : rch (mm_P μ) a0 [] a0 := rfl
  obtain ⟨_, h⟩ := ite_p h
  obtain ⟨x1, e1, h⟩ := bd h
  have hi := (j_X11_forget e1 ).trans hi
  have hp := (p_X11_forget e1).trans hp
  obtain ⟨b7, w7, h⟩ := bd h
  have hi := (j_X11_allDay_W7 w7 ).trans hi
  have hp := (p_X11_allDay_W7 w7).trans hp
  rcases b7 with b7 | b7
  · have h := Option.some.inj h
    subst h
    exact hi
  · have h := Option.some.inj h
    subst h
    exact hi
theorem j_X11_lotDay_J58 {a0 : Nat} {l3 : Int32} {k0 : Int32} {μ : Mm} {x : (Int32 × Mm)} {q : Nat} (h : f_X11_lotDay_J58 a0 l3 k0 μ = some x)  : mm_L ((fun (q : (Int32 × Mm)) => q.2) x) q = mm_L μ q := by
  have hi : mm_L μ q = mm_L μ q := rfl
  have hp : mm_P μ = mm_P μ := rfl
  have r_a0 : rch (mm_P μ) a0 [] a0 := rfl
  obtain ⟨x60, e60, h⟩ := bd h
  obtain ⟨x63, e63, h⟩ := bd h
  obtain ⟨_, h⟩ := ite_n h
  have h := Option.some.inj h
  subst h
  exact hi
theorem j_X11_lotDay_J46 {a0 : Nat} {l2 : Int32} {l3 : Int32} {μ : Mm} {x : (Int32 × Mm)} {q : Nat} (h : f_X11_lotDay_J46 a0 l2 l3 μ = some x)  : mm_L ((fun (q : (Int32 × Mm)) => q.2) x) q = mm_L μ q := by
  have hi : mm_L μ q = mm_L μ q := rfl
  have hp : mm_P μ = mm_P μ := rfl
  have r_a0 : rch (mm_P μ) a0 [] a0 := rfl
  rcases ite_e h with ⟨_, h⟩ | ⟨_, h⟩
  · exact (j_X11_lotDay_J58 h ).trans hi
  · obtain ⟨x51, e51, h⟩ := bd h
    exact (j_X11_lotDay_J58 h ).trans hi
theorem j_X11_lotDay_L16 {a0 : Nat} {l1 : Int32} {l2 : Int32} {s16 : Int32 × Int32 × Mm} {x : ((Int32 × Int32 × Mm) ⊕ (Int32 × Mm))} {q : Nat} (h : f_X11_lotDay_L16 a0 l1 l2 s16 = some x)  : mm_L (sm (fun (q : Int32 × Int32 × Mm) => q.2.2) (fun (q : Int32 × Mm) => q.2) x) q = mm_L ((fun (q : Int32 × Int32 × Mm) => q.2.2) s16) q := by
  have hi : mm_L ((fun (q : Int32 × Int32 × Mm) => q.2.2) s16) q = mm_L ((fun (q : Int32 × Int32 × Mm) => q.2.2) s16) q := rfl
  have hp : mm_P ((fun (q : Int32 × Int32 × Mm) => q.2.2) s16) = mm_P ((fun (q : Int32 × Int32 × Mm) => q.2.2) s16) := rfl
  have r_a0 : rch (mm_P ((fun (q : Int32 × Int32 × Mm) => q.2.2) s16)) a0 [] a0 := rfl
  obtain ⟨x19, e19, h⟩ := bd h
  rcases ite_e h with ⟨_, h⟩ | ⟨_, h⟩
  · have h := Option.some.inj h
    subst h
    exact hi
  · obtain ⟨x28, e28, h⟩ := bd h
    have r_x28 := rch_f r_a0 e28 hp
    obtain ⟨x33, e33, h⟩ := bd h
    obtain ⟨x35, e35, h⟩ := bd h
    have hi := (j_X11_allDay e35 ).trans hi
    have hp := (p_X11_allDay e35).trans hp
    obtain ⟨v39, e39, h⟩ := bd h
    obtain ⟨v40, e40, h⟩ := bd h
    have h := Option.some.inj h
    subst h
    exact hi
theorem j_X11_lotDay_W16 {a0 : Nat} {l1 : Int32} {l2 : Int32} {s16 : Int32 × Int32 × Mm} {b : Int32 × Mm} {q : Nat} (h : whl (f_X11_lotDay_L16 a0 l1 l2) s16 = some b)  : mm_L ((fun (q : Int32 × Mm) => q.2) b) q = mm_L ((fun (q : Int32 × Int32 × Mm) => q.2.2) s16) q := by
  have key := whl_inv (P := fun s' => mm_L ((fun (q : Int32 × Int32 × Mm) => q.2.2) s') q = mm_L ((fun (q : Int32 × Int32 × Mm) => q.2.2) s16) q ∧ mm_P ((fun (q : Int32 × Int32 × Mm) => q.2.2) s') = mm_P ((fun (q : Int32 × Int32 × Mm) => q.2.2) s16)) (Q := fun b' => mm_L ((fun (q : Int32 × Mm) => q.2) b') q = mm_L ((fun (q : Int32 × Int32 × Mm) => q.2.2) s16) q) (fun s' x hs1 hx => ?_) ⟨rfl, rfl⟩ h
  · exact key
  · obtain ⟨h1, hP⟩ := hs1
    have k1 := (j_X11_lotDay_L16 hx ).trans h1
    have k2 := (p_X11_lotDay_L16 hx).trans hP
    cases x with
    | inl z => exact ⟨k1, k2⟩
    | inr z => exact k1
theorem j_X11_lotDay {a0 : Nat} {l1 : Int32} {l2 : Int32} {μ : Mm} {x : (Int32 × Mm)} {q : Nat} (h : f_X11_lotDay a0 l1 l2 μ = some x)  : mm_L ((fun (q : (Int32 × Mm)) => q.2) x) q = mm_L μ q := by
  have hi : mm_L μ q = mm_L μ q := rfl
  have hp : mm_P μ = mm_P μ := rfl
  have r_a0 : rch (mm_P μ) a0 [] a0 := rfl
  obtain ⟨_, h⟩ := ite_p h
  obtain ⟨x2, e2, h⟩ := bd h
  rcases ite_e h with ⟨_, h⟩ | ⟨_, h⟩
  · have h := Option.some.inj h
    subst h
    exact hi
  · obtain ⟨b16, w16, h⟩ := bd h
    have hi := (j_X11_lotDay_W16 w16 ).trans hi
    have hp := (p_X11_lotDay_W16 w16).trans hp
    exact (j_X11_lotDay_J46 h ).trans hi
theorem j_X11_metBy_J128 {a0 : Nat} {l2 : Int32} {μ : Mm} {x : (Int32 × Mm)} {q : Nat} (h : f_X11_metBy_J128 a0 l2 μ = some x)  : mm_L ((fun (q : (Int32 × Mm)) => q.2) x) q = mm_L μ q := by
  have hi : mm_L μ q = mm_L μ q := rfl
  have hp : mm_P μ = mm_P μ := rfl
  have r_a0 : rch (mm_P μ) a0 [] a0 := rfl
  obtain ⟨μ130, e130, h⟩ := bd h
  have hi := (kj_pfI e130).trans hi
  have hp := (kp_pfI e130).trans hp
  have h := Option.some.inj h
  subst h
  exact hi
theorem j_X11_metBy_J122 {a0 : Nat} {l2 : Int32} {l3 : Int32} {μ : Mm} {x : ((Int32 × Int32 × Mm) ⊕ (Int32 × Mm))} {q : Nat} (h : f_X11_metBy_J122 a0 l2 l3 μ = some x)  : mm_L ((sm (fun (q : Int32 × Int32 × Mm) => q.2.2) (fun (q : Int32 × Mm) => q.2)) x) q = mm_L μ q := by
  have hi : mm_L μ q = mm_L μ q := rfl
  have hp : mm_P μ = mm_P μ := rfl
  have r_a0 : rch (mm_P μ) a0 [] a0 := rfl
  obtain ⟨v122, e122, h⟩ := bd h
  have h := Option.some.inj h
  subst h
  exact hi
theorem j_X11_metBy_L13 {a0 : Nat} {s13 : Int32 × Int32 × Mm} {x : ((Int32 × Int32 × Mm) ⊕ (Int32 × Mm))} {q : Nat} (h : f_X11_metBy_L13 a0 s13 = some x)  : mm_L (sm (fun (q : Int32 × Int32 × Mm) => q.2.2) (fun (q : Int32 × Mm) => q.2) x) q = mm_L ((fun (q : Int32 × Int32 × Mm) => q.2.2) s13) q := by
  have hi : mm_L ((fun (q : Int32 × Int32 × Mm) => q.2.2) s13) q = mm_L ((fun (q : Int32 × Int32 × Mm) => q.2.2) s13) q := rfl
  have hp : mm_P ((fun (q : Int32 × Int32 × Mm) => q.2.2) s13) = mm_P ((fun (q : Int32 × Int32 × Mm) => q.2.2) s13) := rfl
  have r_a0 : rch (mm_P ((fun (q : Int32 × Int32 × Mm) => q.2.2) s13)) a0 [] a0 := rfl
  rcases ite_e h with ⟨_, h⟩ | ⟨_, h⟩
  · have h := Option.some.inj h
    subst h
    exact hi
  · obtain ⟨x21, e21, h⟩ := bd h
    have r_x21 := rch_f r_a0 e21 hp
    obtain ⟨x25, e25, h⟩ := bd h
    obtain ⟨x28, e28, h⟩ := bd h
    obtain ⟨x32, e32, h⟩ := bd h
    have hi := (j_X11_byDay e32 ).trans hi
    have hp := (p_X11_byDay e32).trans hp
    obtain ⟨x37, e37, h⟩ := bd h
    have r_x37 := rch_f r_a0 e37 hp
    obtain ⟨x41, e41, h⟩ := bd h
    obtain ⟨x44, e44, h⟩ := bd h
    obtain ⟨x48, e48, h⟩ := bd h
    have hi := (j_X11_byNight e48 ).trans hi
    have hp := (p_X11_byNight e48).trans hp
    obtain ⟨b54, w54, h⟩ := bd h
    exact (j_X11_metBy_J122 h ).trans hi
theorem j_X11_metBy_W13 {a0 : Nat} {s13 : Int32 × Int32 × Mm} {b : Int32 × Mm} {q : Nat} (h : whl (f_X11_metBy_L13 a0) s13 = some b)  : mm_L ((fun (q : Int32 × Mm) => q.2) b) q = mm_L ((fun (q : Int32 × Int32 × Mm) => q.2.2) s13) q := by
  have key := whl_inv (P := fun s' => mm_L ((fun (q : Int32 × Int32 × Mm) => q.2.2) s') q = mm_L ((fun (q : Int32 × Int32 × Mm) => q.2.2) s13) q ∧ mm_P ((fun (q : Int32 × Int32 × Mm) => q.2.2) s') = mm_P ((fun (q : Int32 × Int32 × Mm) => q.2.2) s13)) (Q := fun b' => mm_L ((fun (q : Int32 × Mm) => q.2) b') q = mm_L ((fun (q : Int32 × Int32 × Mm) => q.2.2) s13) q) (fun s' x hs1 hx => ?_) ⟨rfl, rfl⟩ h
  · exact key
  · obtain ⟨h1, hP⟩ := hs1
    have k1 := (j_X11_metBy_L13 hx ).trans h1
    have k2 := (p_X11_metBy_L13 hx).trans hP
    cases x with
    | inl z => exact ⟨k1, k2⟩
    | inr z => exact k1
theorem j_X11_metBy {a0 : Nat} {l1 : Int32} {μ : Mm} {x : (Int32 × Mm)} {q : Nat} (h : f_X11_metBy a0 l1 μ = some x)  : mm_L ((fun (q : (Int32 × Mm)) => q.2) x) q = mm_L μ q := by
  have hi : mm_L μ q = mm_L μ q := rfl
  have hp : mm_P μ = mm_P μ := rfl
  have r_a0 : rch (mm_P μ) a0 [] a0 := rfl
  obtain ⟨_, h⟩ := ite_p h
  obtain ⟨μ4, e4, h⟩ := bd h
  have hi := (kj_pfI e4).trans hi
  have hp := (kp_pfI e4).trans hp
  obtain ⟨x8, e8, h⟩ := bd h
  have hi := (j_X11_forget e8 ).trans hi
  have hp := (p_X11_forget e8).trans hp
  obtain ⟨b13, w13, h⟩ := bd h
  have hi := (j_X11_metBy_W13 w13 ).trans hi
  have hp := (p_X11_metBy_W13 w13).trans hp
  exact (j_X11_metBy_J128 h ).trans hi
theorem j_X11_met {a0 : Nat} {l1 : Int32} {μ : Mm} {x : (Int32 × Mm)} {q : Nat} (h : f_X11_met a0 l1 μ = some x)  : mm_L ((fun (q : (Int32 × Mm)) => q.2) x) q = mm_L μ q := by
  have hi : mm_L μ q = mm_L μ q := rfl
  have hp : mm_P μ = mm_P μ := rfl
  have r_a0 : rch (mm_P μ) a0 [] a0 := rfl
  obtain ⟨_, h⟩ := ite_p h
  obtain ⟨x2, e2, h⟩ := bd h
  rcases ite_e h with ⟨_, h⟩ | ⟨_, h⟩
  · have h := Option.some.inj h
    subst h
    exact hi
  · obtain ⟨x10, e10, h⟩ := bd h
    have hi := (j_X11_metBy e10 ).trans hi
    have hp := (p_X11_metBy e10).trans hp
    have h := Option.some.inj h
    subst h
    exact hi
theorem j_X11_number_J104 {a0 : Nat} {l2 : Int64} {μ : Mm} {x : (Int32 × Mm)} {q : Nat} (h : f_X11_number_J104 a0 l2 μ = some x)  : mm_L ((fun (q : (Int32 × Mm)) => q.2) x) q = mm_L μ q := by
  have hi : mm_L μ q = mm_L μ q := rfl
  have hp : mm_P μ = mm_P μ := rfl
  have r_a0 : rch (mm_P μ) a0 [] a0 := rfl
  obtain ⟨x106, e106, h⟩ := bd h
  have h := Option.some.inj h
  subst h
  exact hi
theorem j_X11_number {a0 : Nat} {μ : Mm} {x : (Int32 × Mm)} {q : Nat} (h : f_X11_number a0 μ = some x)  : mm_L ((fun (q : (Int32 × Mm)) => q.2) x) q = mm_L μ q := by
  have hi : mm_L μ q = mm_L μ q := rfl
  have hp : mm_P μ = mm_P μ := rfl
  have r_a0 : rch (mm_P μ) a0 [] a0 := rfl
  obtain ⟨_, h⟩ := ite_p h
  obtain ⟨x1, e1, h⟩ := bd h
  obtain ⟨μ7, e7, h⟩ := bd h
  have hi := (kj_pfI e7).trans hi
  have hp := (kp_pfI e7).trans hp
  obtain ⟨x12, e12, h⟩ := bd h
  have r_x12 := rch_f r_a0 e12 hp
  obtain ⟨x16, e16, h⟩ := bd h
  rcases ite_e h with ⟨_, h⟩ | ⟨_, h⟩
  · obtain ⟨b27, w27, h⟩ := bd h
    rcases b27 with b27 | b27
    · have h := Option.some.inj h
      subst h
      exact hi
    · exact (j_X11_number_J104 h ).trans hi
  · have h := Option.some.inj h
    subst h
    exact hi
theorem j_X11_saidTo_J95 {a0 : Nat} {l1 : Int32} {l2 : Int32} {l4 : Int32} {l5 : Int32} {μ : Mm} {x : ((Int32 × Int32 × Mm) ⊕ ((Mm) ⊕ ((Int32 × Mm) ⊕ (Mm))))} {q : Nat} (h : f_X11_saidTo_J95 a0 l1 l2 l4 l5 μ = some x)  : mm_L ((sm (fun (q : Int32 × Int32 × Mm) => q.2.2) (sm (fun (q : Mm) => q) (sm (fun (q : Int32 × Mm) => q.2) (fun (q : Mm) => q)))) x) q = mm_L μ q := by
  have hi : mm_L μ q = mm_L μ q := rfl
  have hp : mm_P μ = mm_P μ := rfl
  have r_a0 : rch (mm_P μ) a0 [] a0 := rfl
  obtain ⟨v95, e95, h⟩ := bd h
  have h := Option.some.inj h
  subst h
  exact hi
theorem j_X11_saidTo_L18 {a0 : Nat} {l1 : Int32} {l2 : Int32} {s18 : Int32 × Int32 × Mm} {x : ((Int32 × Int32 × Mm) ⊕ ((Mm) ⊕ ((Int32 × Mm) ⊕ (Mm))))} {q : Nat} (h : f_X11_saidTo_L18 a0 l1 l2 s18 = some x)  : mm_L (sm (fun (q : Int32 × Int32 × Mm) => q.2.2) (sm (fun (q : Mm) => q) (sm (fun (q : Int32 × Mm) => q.2) (fun (q : Mm) => q))) x) q = mm_L ((fun (q : Int32 × Int32 × Mm) => q.2.2) s18) q := by
  have hi : mm_L ((fun (q : Int32 × Int32 × Mm) => q.2.2) s18) q = mm_L ((fun (q : Int32 × Int32 × Mm) => q.2.2) s18) q := rfl
  have hp : mm_P ((fun (q : Int32 × Int32 × Mm) => q.2.2) s18) = mm_P ((fun (q : Int32 × Int32 × Mm) => q.2.2) s18) := rfl
  have r_a0 : rch (mm_P ((fun (q : Int32 × Int32 × Mm) => q.2.2) s18)) a0 [] a0 := rfl
  rcases ite_e h with ⟨_, h⟩ | ⟨_, h⟩
  · have h := Option.some.inj h
    subst h
    exact hi
  · obtain ⟨x30, e30, h⟩ := bd h
    rcases ite_e h with ⟨_, h⟩ | ⟨_, h⟩
    · obtain ⟨x42, e42, h⟩ := bd h
      rcases ite_e h with ⟨_, h⟩ | ⟨_, h⟩
      · have h := Option.some.inj h
        subst h
        exact hi
      · rcases ite_e h with ⟨_, h⟩ | ⟨_, h⟩
        · have h := Option.some.inj h
          subst h
          exact hi
        · obtain ⟨x62, e62, h⟩ := bd h
          have r_x62 := rch_f r_a0 e62 hp
          obtain ⟨x66, e66, h⟩ := bd h
          obtain ⟨μ71, e71, h⟩ := bd h
          have hi := (kj_paI e71).trans hi
          have hp := (kp_paI e71).trans hp
          obtain ⟨x74, e74, h⟩ := bd h
          obtain ⟨μ79, e79, h⟩ := bd h
          have hi := (kj_pfI e79).trans hi
          have hp := (kp_pfI e79).trans hp
          rcases ite_e h with ⟨_, h⟩ | ⟨_, h⟩
          · have h := Option.some.inj h
            subst h
            exact hi
          · exact (j_X11_saidTo_J95 h ).trans hi
    · exact (j_X11_saidTo_J95 h ).trans hi
theorem j_X11_saidTo_W18 {a0 : Nat} {l1 : Int32} {l2 : Int32} {s18 : Int32 × Int32 × Mm} {b : (Mm) ⊕ ((Int32 × Mm) ⊕ (Mm))} {q : Nat} (h : whl (f_X11_saidTo_L18 a0 l1 l2) s18 = some b)  : mm_L ((sm (fun (q : Mm) => q) (sm (fun (q : Int32 × Mm) => q.2) (fun (q : Mm) => q))) b) q = mm_L ((fun (q : Int32 × Int32 × Mm) => q.2.2) s18) q := by
  have key := whl_inv (P := fun s' => mm_L ((fun (q : Int32 × Int32 × Mm) => q.2.2) s') q = mm_L ((fun (q : Int32 × Int32 × Mm) => q.2.2) s18) q ∧ mm_P ((fun (q : Int32 × Int32 × Mm) => q.2.2) s') = mm_P ((fun (q : Int32 × Int32 × Mm) => q.2.2) s18)) (Q := fun b' => mm_L ((sm (fun (q : Mm) => q) (sm (fun (q : Int32 × Mm) => q.2) (fun (q : Mm) => q))) b') q = mm_L ((fun (q : Int32 × Int32 × Mm) => q.2.2) s18) q) (fun s' x hs1 hx => ?_) ⟨rfl, rfl⟩ h
  · exact key
  · obtain ⟨h1, hP⟩ := hs1
    have k1 := (j_X11_saidTo_L18 hx ).trans h1
    have k2 := (p_X11_saidTo_L18 hx).trans hP
    cases x with
    | inl z => exact ⟨k1, k2⟩
    | inr z => exact k1
theorem j_X11_saidTo {a0 : Nat} {l1 : Int32} {l2 : Int32} {l3 : Int32} {μ : Mm} {x : (Int32 × Mm)} {q : Nat} (h : f_X11_saidTo a0 l1 l2 l3 μ = some x)  : mm_L ((fun (q : (Int32 × Mm)) => q.2) x) q = mm_L μ q := by
  have hi : mm_L μ q = mm_L μ q := rfl
  have hp : mm_P μ = mm_P μ := rfl
  have r_a0 : rch (mm_P μ) a0 [] a0 := rfl
  obtain ⟨_, h⟩ := ite_p h
  obtain ⟨μ2, e2, h⟩ := bd h
  have hi := (kj_pfI e2).trans hi
  have hp := (kp_pfI e2).trans hp
  obtain ⟨x6, e6, h⟩ := bd h
  have r_x6 := rch_f r_a0 e6 hp
  obtain ⟨μ11, e11, h⟩ := bd h
  have hi := (kj_paI e11).trans hi
  have hp := (kp_paI e11).trans hp
  obtain ⟨b18, w18, h⟩ := bd h
  have hi := (j_X11_saidTo_W18 w18 ).trans hi
  have hp := (p_X11_saidTo_W18 w18).trans hp
  rcases b18 with b18 | b18
  · have h := Option.some.inj h
    subst h
    exact hi
  · rcases b18 with b18 | b18
    · have h := Option.some.inj h
      subst h
      exact hi
    · have h := Option.some.inj h
      subst h
      exact hi
theorem j_X11_over_J46  {μ : Mm} {x : (Int32 × Mm)} {q : Nat} (h : f_X11_over_J46  μ = some x)  : mm_L ((fun (q : (Int32 × Mm)) => q.2) x) q = mm_L μ q := by
  have hi : mm_L μ q = mm_L μ q := rfl
  have hp : mm_P μ = mm_P μ := rfl
  have h := Option.some.inj h
  subst h
  exact hi
theorem j_X11_over {a0 : Nat} {l1 : Int32} {l2 : Int32} {l3 : Int32} {l4 : Int32} {μ : Mm} {x : (Int32 × Mm)} {q : Nat} (h : f_X11_over a0 l1 l2 l3 l4 μ = some x)  : mm_L ((fun (q : (Int32 × Mm)) => q.2) x) q = mm_L μ q := by
  have hi : mm_L μ q = mm_L μ q := rfl
  have hp : mm_P μ = mm_P μ := rfl
  have r_a0 : rch (mm_P μ) a0 [] a0 := rfl
  obtain ⟨_, h⟩ := ite_p h
  obtain ⟨x4, e4, h⟩ := bd h
  rcases ite_e h with ⟨_, h⟩ | ⟨_, h⟩
  · have h := Option.some.inj h
    subst h
    exact hi
  · rcases ite_e h with ⟨_, h⟩ | ⟨_, h⟩
    · rcases ite_e h with ⟨_, h⟩ | ⟨_, h⟩
      · have h := Option.some.inj h
        subst h
        exact hi
      · obtain ⟨x30, e30, h⟩ := bd h
        have hi := (j_X11_saidTo e30 ).trans hi
        have hp := (p_X11_saidTo e30).trans hp
        rcases ite_e h with ⟨_, h⟩ | ⟨_, h⟩
        · exact (j_X11_over_J46 h ).trans hi
        · obtain ⟨x40, e40, h⟩ := bd h
          rcases ite_e h with ⟨_, h⟩ | ⟨_, h⟩
          · obtain ⟨x51, e51, h⟩ := bd h
            have r_x51 := rch_f r_a0 e51 hp
            obtain ⟨x56, e56, h⟩ := bd h
            have h := Option.some.inj h
            subst h
            exact hi
          · exact (j_X11_over_J46 h ).trans hi
    · have h := Option.some.inj h
      subst h
      exact hi
theorem j_X11_parts_J140 {a0 : Nat} {l1 : Int32} {l2 : Int32} {μ : Mm} {x : (Int64 × Mm)} {q : Nat} (h : f_X11_parts_J140 a0 l1 l2 μ = some x)  : mm_L ((fun (q : (Int64 × Mm)) => q.2) x) q = mm_L μ q := by
  have hi : mm_L μ q = mm_L μ q := rfl
  have hp : mm_P μ = mm_P μ := rfl
  have r_a0 : rch (mm_P μ) a0 [] a0 := rfl
  obtain ⟨x141, e141, h⟩ := bd h
  have r_x141 := rch_f r_a0 e141 hp
  obtain ⟨x150, e150, h⟩ := bd h
  have h := Option.some.inj h
  subst h
  exact hi
theorem j_X11_parts_J134 {a0 : Nat} {l1 : Int32} {l2 : Int32} {l3 : Int32} {μ : Mm} {x : ((Int32 × Mm) ⊕ (Mm))} {q : Nat} (h : f_X11_parts_J134 a0 l1 l2 l3 μ = some x)  : mm_L ((sm (fun (q : Int32 × Mm) => q.2) (fun (q : Mm) => q)) x) q = mm_L μ q := by
  have hi : mm_L μ q = mm_L μ q := rfl
  have hp : mm_P μ = mm_P μ := rfl
  have r_a0 : rch (mm_P μ) a0 [] a0 := rfl
  obtain ⟨v134, e134, h⟩ := bd h
  have h := Option.some.inj h
  subst h
  exact hi
theorem j_X11_parts_J114 {a0 : Nat} {l1 : Int32} {l2 : Int32} {l3 : Int32} {l4 : Int32} {l5 : Int64} {μ : Mm} {x : ((Int32 × Mm) ⊕ (Mm))} {q : Nat} (h : f_X11_parts_J114 a0 l1 l2 l3 l4 l5 μ = some x) (c_a0 : ∀ p ∈ ([[63]] : List (List Nat)), ¬ rch (mm_P μ) a0 p q) : mm_L ((sm (fun (q : Int32 × Mm) => q.2) (fun (q : Mm) => q)) x) q = mm_L μ q := by
  have hi : mm_L μ q = mm_L μ q := rfl
  have hp : mm_P μ = mm_P μ := rfl
  have r_a0 : rch (mm_P μ) a0 [] a0 := rfl
  obtain ⟨x115, e115, h⟩ := bd h
  have r_x115 := rch_f r_a0 e115 hp
  obtain ⟨μ127, e127, h⟩ := bd h
  have hi := (kj_paL e127 (rch_ne c_a0 (by decide) r_x115)).trans hi
  have hp := (kp_paL e127).trans hp
  obtain ⟨v128, e128, h⟩ := bd h
  have h := Option.some.inj h
  subst h
  exact hi
theorem j_X11_parts_J111 {a0 : Nat} {l1 : Int32} {l2 : Int32} {l3 : Int32} {l4 : Int32} {k0 : Int64} {k1 : Int64} {μ : Mm} {x : ((Int32 × Mm) ⊕ (Mm))} {q : Nat} (h : f_X11_parts_J111 a0 l1 l2 l3 l4 k0 k1 μ = some x) (c_a0 : ∀ p ∈ ([[63]] : List (List Nat)), ¬ rch (mm_P μ) a0 p q) : mm_L ((sm (fun (q : Int32 × Mm) => q.2) (fun (q : Mm) => q)) x) q = mm_L μ q := by
  have hi : mm_L μ q = mm_L μ q := rfl
  have hp : mm_P μ = mm_P μ := rfl
  have r_a0 : rch (mm_P μ) a0 [] a0 := rfl
  obtain ⟨v112, e112, h⟩ := bd h
  exact (j_X11_parts_J114 h (rch_sub c_a0 r_a0 (by decide) hp)).trans hi
theorem j_X11_parts_J55 {a0 : Nat} {l1 : Int32} {l2 : Int32} {l3 : Int32} {l4 : Int32} {k0 : Int64} {μ : Mm} {x : ((Int32 × Mm) ⊕ (Mm))} {q : Nat} (h : f_X11_parts_J55 a0 l1 l2 l3 l4 k0 μ = some x) (c_a0 : ∀ p ∈ ([[63]] : List (List Nat)), ¬ rch (mm_P μ) a0 p q) : mm_L ((sm (fun (q : Int32 × Mm) => q.2) (fun (q : Mm) => q)) x) q = mm_L μ q := by
  have hi : mm_L μ q = mm_L μ q := rfl
  have hp : mm_P μ = mm_P μ := rfl
  have r_a0 : rch (mm_P μ) a0 [] a0 := rfl
  rcases ite_e h with ⟨_, h⟩ | ⟨_, h⟩
  · exact (j_X11_parts_J114 h (rch_sub c_a0 r_a0 (by decide) hp)).trans hi
  · obtain ⟨x67, e67, h⟩ := bd h
    have r_x67 := rch_f r_a0 e67 hp
    obtain ⟨x79, e79, h⟩ := bd h
    rcases ite_e h with ⟨_, h⟩ | ⟨_, h⟩
    · exact (j_X11_parts_J111 h (rch_sub c_a0 r_a0 (by decide) hp)).trans hi
    · obtain ⟨x91, e91, h⟩ := bd h
      have r_x91 := rch_f r_a0 e91 hp
      obtain ⟨x105, e105, h⟩ := bd h
      exact (j_X11_parts_J111 h (rch_sub c_a0 r_a0 (by decide) hp)).trans hi
theorem j_X11_parts_J54 {a0 : Nat} {l1 : Int32} {l2 : Int32} {l3 : Int32} {l4 : Int32} {μ : Mm} {x : ((Int32 × Mm) ⊕ (Mm))} {q : Nat} (h : f_X11_parts_J54 a0 l1 l2 l3 l4 μ = some x) (c_a0 : ∀ p ∈ ([[63]] : List (List Nat)), ¬ rch (mm_P μ) a0 p q) : mm_L ((sm (fun (q : Int32 × Mm) => q.2) (fun (q : Mm) => q)) x) q = mm_L μ q := by
  have hi : mm_L μ q = mm_L μ q := rfl
  have hp : mm_P μ = mm_P μ := rfl
  have r_a0 : rch (mm_P μ) a0 [] a0 := rfl
  exact (j_X11_parts_J55 h (rch_sub c_a0 r_a0 (by decide) hp)).trans hi
theorem j_X11_parts_L34 {a0 : Nat} {l1 : Int32} {l2 : Int32} {l3 : Int32} {s34 : Int32 × Mm} {x : ((Int32 × Mm) ⊕ (Mm))} {q : Nat} (h : f_X11_parts_L34 a0 l1 l2 l3 s34 = some x) (c_a0 : ∀ p ∈ ([[63]] : List (List Nat)), ¬ rch (mm_P ((fun (q : Int32 × Mm) => q.2) s34)) a0 p q) : mm_L (sm (fun (q : Int32 × Mm) => q.2) (fun (q : Mm) => q) x) q = mm_L ((fun (q : Int32 × Mm) => q.2) s34) q := by
  have hi : mm_L ((fun (q : Int32 × Mm) => q.2) s34) q = mm_L ((fun (q : Int32 × Mm) => q.2) s34) q := rfl
  have hp : mm_P ((fun (q : Int32 × Mm) => q.2) s34) = mm_P ((fun (q : Int32 × Mm) => q.2) s34) := rfl
  have r_a0 : rch (mm_P ((fun (q : Int32 × Mm) => q.2) s34)) a0 [] a0 := rfl
  rcases ite_e h with ⟨_, h⟩ | ⟨_, h⟩
  · have h := Option.some.inj h
    subst h
    exact hi
  · rcases ite_e h with ⟨_, h⟩ | ⟨_, h⟩
    · rcases ite_e h with ⟨_, h⟩ | ⟨_, h⟩
      · exact (j_X11_parts_J55 h (rch_sub c_a0 r_a0 (by decide) hp)).trans hi
      · exact (j_X11_parts_J54 h (rch_sub c_a0 r_a0 (by decide) hp)).trans hi
    · exact (j_X11_parts_J54 h (rch_sub c_a0 r_a0 (by decide) hp)).trans hi
theorem j_X11_parts_W34 {a0 : Nat} {l1 : Int32} {l2 : Int32} {l3 : Int32} {s34 : Int32 × Mm} {b : Mm} {q : Nat} (h : whl (f_X11_parts_L34 a0 l1 l2 l3) s34 = some b) (c_a0 : ∀ p ∈ ([[63]] : List (List Nat)), ¬ rch (mm_P ((fun (q : Int32 × Mm) => q.2) s34)) a0 p q) : mm_L ((fun (q : Mm) => q) b) q = mm_L ((fun (q : Int32 × Mm) => q.2) s34) q := by
  have key := whl_inv (P := fun s' => mm_L ((fun (q : Int32 × Mm) => q.2) s') q = mm_L ((fun (q : Int32 × Mm) => q.2) s34) q ∧ mm_P ((fun (q : Int32 × Mm) => q.2) s') = mm_P ((fun (q : Int32 × Mm) => q.2) s34)) (Q := fun b' => mm_L ((fun (q : Mm) => q) b') q = mm_L ((fun (q : Int32 × Mm) => q.2) s34) q) (fun s' x hs1 hx => ?_) ⟨rfl, rfl⟩ h
  · exact key
  · obtain ⟨h1, hP⟩ := hs1
    have k1 := (j_X11_parts_L34 hx (fun p hp hr => c_a0 p hp (by rw [← hP]; exact hr))).trans h1
    have k2 := (p_X11_parts_L34 hx).trans hP
    cases x with
    | inl z => exact ⟨k1, k2⟩
    | inr z => exact k1
theorem j_X11_parts_L26 {a0 : Nat} {l1 : Int32} {l2 : Int32} {s26 : Int32 × Mm} {x : ((Int32 × Mm) ⊕ (Mm))} {q : Nat} (h : f_X11_parts_L26 a0 l1 l2 s26 = some x) (c_a0 : ∀ p ∈ ([[63]] : List (List Nat)), ¬ rch (mm_P ((fun (q : Int32 × Mm) => q.2) s26)) a0 p q) : mm_L (sm (fun (q : Int32 × Mm) => q.2) (fun (q : Mm) => q) x) q = mm_L ((fun (q : Int32 × Mm) => q.2) s26) q := by
  have hi : mm_L ((fun (q : Int32 × Mm) => q.2) s26) q = mm_L ((fun (q : Int32 × Mm) => q.2) s26) q := rfl
  have hp : mm_P ((fun (q : Int32 × Mm) => q.2) s26) = mm_P ((fun (q : Int32 × Mm) => q.2) s26) := rfl
  have r_a0 : rch (mm_P ((fun (q : Int32 × Mm) => q.2) s26)) a0 [] a0 := rfl
  rcases ite_e h with ⟨_, h⟩ | ⟨_, h⟩
  · have h := Option.some.inj h
    subst h
    exact hi
  · obtain ⟨b34, w34, h⟩ := bd h
    have hi := (j_X11_parts_W34 w34 (rch_sub c_a0 r_a0 (by decide) hp)).trans hi
    have hp := (p_X11_parts_W34 w34).trans hp
    exact (j_X11_parts_J134 h ).trans hi
theorem j_X11_parts_W26 {a0 : Nat} {l1 : Int32} {l2 : Int32} {s26 : Int32 × Mm} {b : Mm} {q : Nat} (h : whl (f_X11_parts_L26 a0 l1 l2) s26 = some b) (c_a0 : ∀ p ∈ ([[63]] : List (List Nat)), ¬ rch (mm_P ((fun (q : Int32 × Mm) => q.2) s26)) a0 p q) : mm_L ((fun (q : Mm) => q) b) q = mm_L ((fun (q : Int32 × Mm) => q.2) s26) q := by
  have key := whl_inv (P := fun s' => mm_L ((fun (q : Int32 × Mm) => q.2) s') q = mm_L ((fun (q : Int32 × Mm) => q.2) s26) q ∧ mm_P ((fun (q : Int32 × Mm) => q.2) s') = mm_P ((fun (q : Int32 × Mm) => q.2) s26)) (Q := fun b' => mm_L ((fun (q : Mm) => q) b') q = mm_L ((fun (q : Int32 × Mm) => q.2) s26) q) (fun s' x hs1 hx => ?_) ⟨rfl, rfl⟩ h
  · exact key
  · obtain ⟨h1, hP⟩ := hs1
    have k1 := (j_X11_parts_L26 hx (fun p hp hr => c_a0 p hp (by rw [← hP]; exact hr))).trans h1
    have k2 := (p_X11_parts_L26 hx).trans hP
    cases x with
    | inl z => exact ⟨k1, k2⟩
    | inr z => exact k1
theorem j_X11_parts {a0 : Nat} {l1 : Int32} {l2 : Int32} {μ : Mm} {x : (Int64 × Mm)} {q : Nat} (h : f_X11_parts a0 l1 l2 μ = some x) (c_a0 : ∀ p ∈ ([[63]] : List (List Nat)), ¬ rch (mm_P μ) a0 p q) : mm_L ((fun (q : (Int64 × Mm)) => q.2) x) q = mm_L μ q := by
  have hi : mm_L μ q = mm_L μ q := rfl
  have hp : mm_P μ = mm_P μ := rfl
  have r_a0 : rch (mm_P μ) a0 [] a0 := rfl
  obtain ⟨_, h⟩ := ite_p h
  obtain ⟨x4, e4, h⟩ := bd h
  rcases ite_e h with ⟨_, h⟩ | ⟨_, h⟩
  · have h := Option.some.inj h
    subst h
    exact hi
  · obtain ⟨x14, e14, h⟩ := bd h
    rcases ite_e h with ⟨_, h⟩ | ⟨_, h⟩
    · have h := Option.some.inj h
      subst h
      exact hi
    · obtain ⟨b26, w26, h⟩ := bd h
      have hi := (j_X11_parts_W26 w26 (rch_sub c_a0 r_a0 (by decide) hp)).trans hi
      have hp := (p_X11_parts_W26 w26).trans hp
      exact (j_X11_parts_J140 h ).trans hi
theorem j_X11_plan_J60 {a0 : Nat} {l1 : Int32} {l2 : Int32} {l3 : Int32} {μ : Mm} {x : ((Int32 × Int32 × Int32 × Mm) ⊕ (Int32 × Mm))} {q : Nat} (h : f_X11_plan_J60 a0 l1 l2 l3 μ = some x)  : mm_L ((sm (fun (q : Int32 × Int32 × Int32 × Mm) => q.2.2.2) (fun (q : Int32 × Mm) => q.2)) x) q = mm_L μ q := by
  have hi : mm_L μ q = mm_L μ q := rfl
  have hp : mm_P μ = mm_P μ := rfl
  have r_a0 : rch (mm_P μ) a0 [] a0 := rfl
  obtain ⟨v60, e60, h⟩ := bd h
  have h := Option.some.inj h
  subst h
  exact hi
theorem j_X11_plan_J55 {a0 : Nat} {l3 : Int32} {l4 : Int32} {μ : Mm} {x : ((Int32 × Int32 × Int32 × Mm) ⊕ (Int32 × Mm))} {q : Nat} (h : f_X11_plan_J55 a0 l3 l4 μ = some x)  : mm_L ((sm (fun (q : Int32 × Int32 × Int32 × Mm) => q.2.2.2) (fun (q : Int32 × Mm) => q.2)) x) q = mm_L μ q := by
  have hi : mm_L μ q = mm_L μ q := rfl
  have hp : mm_P μ = mm_P μ := rfl
  have r_a0 : rch (mm_P μ) a0 [] a0 := rfl
  exact (j_X11_plan_J60 h ).trans hi
theorem j_X11_plan_L6 {a0 : Nat} {s6 : Int32 × Int32 × Int32 × Mm} {x : ((Int32 × Int32 × Int32 × Mm) ⊕ (Int32 × Mm))} {q : Nat} (h : f_X11_plan_L6 a0 s6 = some x)  : mm_L (sm (fun (q : Int32 × Int32 × Int32 × Mm) => q.2.2.2) (fun (q : Int32 × Mm) => q.2) x) q = mm_L ((fun (q : Int32 × Int32 × Int32 × Mm) => q.2.2.2) s6) q := by
  have hi : mm_L ((fun (q : Int32 × Int32 × Int32 × Mm) => q.2.2.2) s6) q = mm_L ((fun (q : Int32 × Int32 × Int32 × Mm) => q.2.2.2) s6) q := rfl
  have hp : mm_P ((fun (q : Int32 × Int32 × Int32 × Mm) => q.2.2.2) s6) = mm_P ((fun (q : Int32 × Int32 × Int32 × Mm) => q.2.2.2) s6) := rfl
  have r_a0 : rch (mm_P ((fun (q : Int32 × Int32 × Int32 × Mm) => q.2.2.2) s6)) a0 [] a0 := rfl
  obtain ⟨x8, e8, h⟩ := bd h
  rcases ite_e h with ⟨_, h⟩ | ⟨_, h⟩
  · have h := Option.some.inj h
    subst h
    exact hi
  · obtain ⟨x16, e16, h⟩ := bd h
    have hi := (j_X11_metBy e16 ).trans hi
    have hp := (p_X11_metBy e16).trans hp
    obtain ⟨x19, e19, h⟩ := bd h
    rcases ite_e h with ⟨_, h⟩ | ⟨_, h⟩
    · exact (j_X11_plan_J55 h ).trans hi
    · rcases ite_e h with ⟨_, h⟩ | ⟨_, h⟩
      · exact (j_X11_plan_J60 h ).trans hi
      · rcases ite_e h with ⟨_, h⟩ | ⟨_, h⟩
        · obtain ⟨x42, e42, h⟩ := bd h
          obtain ⟨x46, e46, h⟩ := bd h
          rcases ite_e h with ⟨_, h⟩ | ⟨_, h⟩
          · exact (j_X11_plan_J55 h ).trans hi
          · exact (j_X11_plan_J60 h ).trans hi
        · exact (j_X11_plan_J55 h ).trans hi
theorem j_X11_plan_W6 {a0 : Nat} {s6 : Int32 × Int32 × Int32 × Mm} {b : Int32 × Mm} {q : Nat} (h : whl (f_X11_plan_L6 a0) s6 = some b)  : mm_L ((fun (q : Int32 × Mm) => q.2) b) q = mm_L ((fun (q : Int32 × Int32 × Int32 × Mm) => q.2.2.2) s6) q := by
  have key := whl_inv (P := fun s' => mm_L ((fun (q : Int32 × Int32 × Int32 × Mm) => q.2.2.2) s') q = mm_L ((fun (q : Int32 × Int32 × Int32 × Mm) => q.2.2.2) s6) q ∧ mm_P ((fun (q : Int32 × Int32 × Int32 × Mm) => q.2.2.2) s') = mm_P ((fun (q : Int32 × Int32 × Int32 × Mm) => q.2.2.2) s6)) (Q := fun b' => mm_L ((fun (q : Int32 × Mm) => q.2) b') q = mm_L ((fun (q : Int32 × Int32 × Int32 × Mm) => q.2.2.2) s6) q) (fun s' x hs1 hx => ?_) ⟨rfl, rfl⟩ h
  · exact key
  · obtain ⟨h1, hP⟩ := hs1
    have k1 := (j_X11_plan_L6 hx ).trans h1
    have k2 := (p_X11_plan_L6 hx).trans hP
    cases x with
    | inl z => exact ⟨k1, k2⟩
    | inr z => exact k1
theorem j_X11_plan {a0 : Nat} {μ : Mm} {x : (Int32 × Mm)} {q : Nat} (h : f_X11_plan a0 μ = some x)  : mm_L ((fun (q : (Int32 × Mm)) => q.2) x) q = mm_L μ q := by
  have hi : mm_L μ q = mm_L μ q := rfl
  have hp : mm_P μ = mm_P μ := rfl
  have r_a0 : rch (mm_P μ) a0 [] a0 := rfl
  obtain ⟨_, h⟩ := ite_p h
  obtain ⟨b6, w6, h⟩ := bd h
  have hi := (j_X11_plan_W6 w6 ).trans hi
  have hp := (p_X11_plan_W6 w6).trans hp
  have h := Option.some.inj h
  subst h
  exact hi
theorem j_X11_right {a0 : Nat} {l1 : Int32} {l2 : Int32} {l3 : Int32} {μ : Mm} {x : (Int32 × Mm)} {q : Nat} (h : f_X11_right a0 l1 l2 l3 μ = some x)  : mm_L ((fun (q : (Int32 × Mm)) => q.2) x) q = mm_L μ q := by
  have hi : mm_L μ q = mm_L μ q := rfl
  have hp : mm_P μ = mm_P μ := rfl
  have r_a0 : rch (mm_P μ) a0 [] a0 := rfl
  obtain ⟨_, h⟩ := ite_p h
  obtain ⟨x2, e2, h⟩ := bd h
  obtain ⟨x8, e8, h⟩ := bd h
  rcases ite_e h with ⟨_, h⟩ | ⟨_, h⟩
  · have h := Option.some.inj h
    subst h
    exact hi
  · obtain ⟨x17, e17, h⟩ := bd h
    obtain ⟨x22, e22, h⟩ := bd h
    rcases ite_e h with ⟨_, h⟩ | ⟨_, h⟩
    · have h := Option.some.inj h
      subst h
      exact hi
    · obtain ⟨x31, e31, h⟩ := bd h
      rcases ite_e h with ⟨_, h⟩ | ⟨_, h⟩
      · have h := Option.some.inj h
        subst h
        exact hi
      · obtain ⟨x41, e41, h⟩ := bd h
        rcases ite_e h with ⟨_, h⟩ | ⟨_, h⟩
        · have h := Option.some.inj h
          subst h
          exact hi
        · obtain ⟨μ54, e54, h⟩ := bd h
          have hi := (kj_pfI e54).trans hi
          have hp := (kp_pfI e54).trans hp
          obtain ⟨x58, e58, h⟩ := bd h
          have r_x58 := rch_f r_a0 e58 hp
          obtain ⟨x62, e62, h⟩ := bd h
          obtain ⟨μ66, e66, h⟩ := bd h
          have hi := (kj_paI e66).trans hi
          have hp := (kp_paI e66).trans hp
          obtain ⟨x68, e68, h⟩ := bd h
          have r_x68 := rch_f r_a0 e68 hp
          obtain ⟨x72, e72, h⟩ := bd h
          obtain ⟨μ76, e76, h⟩ := bd h
          have hi := (kj_paI e76).trans hi
          have hp := (kp_paI e76).trans hp
          obtain ⟨x78, e78, h⟩ := bd h
          have r_x78 := rch_f r_a0 e78 hp
          obtain ⟨x82, e82, h⟩ := bd h
          obtain ⟨μ86, e86, h⟩ := bd h
          have hi := (kj_paI e86).trans hi
          have hp := (kp_paI e86).trans hp
          obtain ⟨x89, e89, h⟩ := bd h
          obtain ⟨μ94, e94, h⟩ := bd h
          have hi := (kj_pfI e94).trans hi
          have hp := (kp_pfI e94).trans hp
          obtain ⟨b103, w103, h⟩ := bd h
          have h := Option.some.inj h
          subst h
          exact hi
theorem j_X11_rings_J98 {a0 : Nat} {l1 : Int32} {μ : Mm} {x : (Int64 × Mm)} {q : Nat} (h : f_X11_rings_J98 a0 l1 μ = some x)  : mm_L ((fun (q : (Int64 × Mm)) => q.2) x) q = mm_L μ q := by
  have hi : mm_L μ q = mm_L μ q := rfl
  have hp : mm_P μ = mm_P μ := rfl
  have r_a0 : rch (mm_P μ) a0 [] a0 := rfl
  obtain ⟨x99, e99, h⟩ := bd h
  obtain ⟨b106, w106, h⟩ := bd h
  have h := Option.some.inj h
  subst h
  exact hi
theorem j_X11_rings_L27 {a0 : Nat} {s27 : Int32 × Mm} {x : ((Int32 × Mm) ⊕ ((Mm) ⊕ (Int32 × Mm)))} {q : Nat} (h : f_X11_rings_L27 a0 s27 = some x) (c_a0 : ∀ p ∈ ([[]] : List (List Nat)), ¬ rch (mm_P ((fun (q : Int32 × Mm) => q.2) s27)) a0 p q) : mm_L (sm (fun (q : Int32 × Mm) => q.2) (sm (fun (q : Mm) => q) (fun (q : Int32 × Mm) => q.2)) x) q = mm_L ((fun (q : Int32 × Mm) => q.2) s27) q := by
  have hi : mm_L ((fun (q : Int32 × Mm) => q.2) s27) q = mm_L ((fun (q : Int32 × Mm) => q.2) s27) q := rfl
  have hp : mm_P ((fun (q : Int32 × Mm) => q.2) s27) = mm_P ((fun (q : Int32 × Mm) => q.2) s27) := rfl
  have r_a0 : rch (mm_P ((fun (q : Int32 × Mm) => q.2) s27)) a0 [] a0 := rfl
  obtain ⟨x28, e28, h⟩ := bd h
  rcases ite_e h with ⟨_, h⟩ | ⟨_, h⟩
  · have h := Option.some.inj h
    subst h
    exact hi
  · obtain ⟨x36, e36, h⟩ := bd h
    rcases ite_e h with ⟨_, h⟩ | ⟨_, h⟩
    · obtain ⟨x44, e44, h⟩ := bd h
      obtain ⟨x50, e50, h⟩ := bd h
      rcases ite_e h with ⟨_, h⟩ | ⟨_, h⟩
      · have h := Option.some.inj h
        subst h
        exact hi
      · obtain ⟨x58, e58, h⟩ := bd h
        rcases ite_e h with ⟨_, h⟩ | ⟨_, h⟩
        · obtain ⟨x72, e72, h⟩ := bd h
          have r_x72 := rch_f r_a0 e72 hp
          obtain ⟨x76, e76, h⟩ := bd h
          obtain ⟨x80, e80, h⟩ := bd h
          obtain ⟨μ83, e83, h⟩ := bd h
          have hi := (kj_paI e83).trans hi
          have hp := (kp_paI e83).trans hp
          obtain ⟨x86, e86, h⟩ := bd h
          obtain ⟨v90, e90, h⟩ := bd h
          obtain ⟨x92, e92, h⟩ := bd h
          have hi := (j_X11_scan e92 (rch_sub c_a0 r_a0 (by decide) hp)).trans hi
          have hp := (p_X11_scan e92).trans hp
          have h := Option.some.inj h
          subst h
          exact hi
        · have h := Option.some.inj h
          subst h
          exact hi
    · have h := Option.some.inj h
      subst h
      exact hi
theorem j_X11_rings_W27 {a0 : Nat} {s27 : Int32 × Mm} {b : (Mm) ⊕ (Int32 × Mm)} {q : Nat} (h : whl (f_X11_rings_L27 a0) s27 = some b) (c_a0 : ∀ p ∈ ([[]] : List (List Nat)), ¬ rch (mm_P ((fun (q : Int32 × Mm) => q.2) s27)) a0 p q) : mm_L ((sm (fun (q : Mm) => q) (fun (q : Int32 × Mm) => q.2)) b) q = mm_L ((fun (q : Int32 × Mm) => q.2) s27) q := by
  have key := whl_inv (P := fun s' => mm_L ((fun (q : Int32 × Mm) => q.2) s') q = mm_L ((fun (q : Int32 × Mm) => q.2) s27) q ∧ mm_P ((fun (q : Int32 × Mm) => q.2) s') = mm_P ((fun (q : Int32 × Mm) => q.2) s27)) (Q := fun b' => mm_L ((sm (fun (q : Mm) => q) (fun (q : Int32 × Mm) => q.2)) b') q = mm_L ((fun (q : Int32 × Mm) => q.2) s27) q) (fun s' x hs1 hx => ?_) ⟨rfl, rfl⟩ h
  · exact key
  · obtain ⟨h1, hP⟩ := hs1
    have k1 := (j_X11_rings_L27 hx (fun p hp hr => c_a0 p hp (by rw [← hP]; exact hr))).trans h1
    have k2 := (p_X11_rings_L27 hx).trans hP
    cases x with
    | inl z => exact ⟨k1, k2⟩
    | inr z => exact k1
theorem j_X11_rings_J25 {a0 : Nat} {μ : Mm} {x : (Int64 × Mm)} {q : Nat} (h : f_X11_rings_J25 a0 μ = some x) (c_a0 : ∀ p ∈ ([[]] : List (List Nat)), ¬ rch (mm_P μ) a0 p q) : mm_L ((fun (q : (Int64 × Mm)) => q.2) x) q = mm_L μ q := by
  have hi : mm_L μ q = mm_L μ q := rfl
  have hp : mm_P μ = mm_P μ := rfl
  have r_a0 : rch (mm_P μ) a0 [] a0 := rfl
  obtain ⟨b27, w27, h⟩ := bd h
  have hi := (j_X11_rings_W27 w27 (rch_sub c_a0 r_a0 (by decide) hp)).trans hi
  have hp := (p_X11_rings_W27 w27).trans hp
  rcases b27 with b27 | b27
  · have h := Option.some.inj h
    subst h
    exact hi
  · exact (j_X11_rings_J98 h ).trans hi
theorem j_X11_rings_L6 {a0 : Nat} {s6 : Int32 × Mm} {x : ((Int32 × Mm) ⊕ (Mm))} {q : Nat} (h : f_X11_rings_L6 a0 s6 = some x)  : mm_L (sm (fun (q : Int32 × Mm) => q.2) (fun (q : Mm) => q) x) q = mm_L ((fun (q : Int32 × Mm) => q.2) s6) q := by
  have hi : mm_L ((fun (q : Int32 × Mm) => q.2) s6) q = mm_L ((fun (q : Int32 × Mm) => q.2) s6) q := rfl
  have hp : mm_P ((fun (q : Int32 × Mm) => q.2) s6) = mm_P ((fun (q : Int32 × Mm) => q.2) s6) := rfl
  have r_a0 : rch (mm_P ((fun (q : Int32 × Mm) => q.2) s6)) a0 [] a0 := rfl
  rcases ite_e h with ⟨_, h⟩ | ⟨_, h⟩
  · have h := Option.some.inj h
    subst h
    exact hi
  · obtain ⟨x13, e13, h⟩ := bd h
    have r_x13 := rch_f r_a0 e13 hp
    obtain ⟨μ18, e18, h⟩ := bd h
    have hi := (kj_paI e18).trans hi
    have hp := (kp_paI e18).trans hp
    obtain ⟨v19, e19, h⟩ := bd h
    have h := Option.some.inj h
    subst h
    exact hi
theorem j_X11_rings_W6 {a0 : Nat} {s6 : Int32 × Mm} {b : Mm} {q : Nat} (h : whl (f_X11_rings_L6 a0) s6 = some b)  : mm_L ((fun (q : Mm) => q) b) q = mm_L ((fun (q : Int32 × Mm) => q.2) s6) q := by
  have key := whl_inv (P := fun s' => mm_L ((fun (q : Int32 × Mm) => q.2) s') q = mm_L ((fun (q : Int32 × Mm) => q.2) s6) q ∧ mm_P ((fun (q : Int32 × Mm) => q.2) s') = mm_P ((fun (q : Int32 × Mm) => q.2) s6)) (Q := fun b' => mm_L ((fun (q : Mm) => q) b') q = mm_L ((fun (q : Int32 × Mm) => q.2) s6) q) (fun s' x hs1 hx => ?_) ⟨rfl, rfl⟩ h
  · exact key
  · obtain ⟨h1, hP⟩ := hs1
    have k1 := (j_X11_rings_L6 hx ).trans h1
    have k2 := (p_X11_rings_L6 hx).trans hP
    cases x with
    | inl z => exact ⟨k1, k2⟩
    | inr z => exact k1
theorem j_X11_rings {a0 : Nat} {μ : Mm} {x : (Int64 × Mm)} {q : Nat} (h : f_X11_rings a0 μ = some x) (c_a0 : ∀ p ∈ ([[]] : List (List Nat)), ¬ rch (mm_P μ) a0 p q) : mm_L ((fun (q : (Int64 × Mm)) => q.2) x) q = mm_L μ q := by
  have hi : mm_L μ q = mm_L μ q := rfl
  have hp : mm_P μ = mm_P μ := rfl
  have r_a0 : rch (mm_P μ) a0 [] a0 := rfl
  obtain ⟨_, h⟩ := ite_p h
  obtain ⟨x1, e1, h⟩ := bd h
  have hi := (j_X11_takeTape e1 (rch_sub c_a0 r_a0 (by decide) hp)).trans hi
  have hp := (p_X11_takeTape e1).trans hp
  obtain ⟨b6, w6, h⟩ := bd h
  have hi := (j_X11_rings_W6 w6 ).trans hi
  have hp := (p_X11_rings_W6 w6).trans hp
  exact (j_X11_rings_J25 h (rch_sub c_a0 r_a0 (by decide) hp)).trans hi
theorem j_X11_said {a0 : Nat} {l1 : Int32} {l2 : Int32} {l3 : Int32} {μ : Mm} {x : (Int32 × Mm)} {q : Nat} (h : f_X11_said a0 l1 l2 l3 μ = some x)  : mm_L ((fun (q : (Int32 × Mm)) => q.2) x) q = mm_L μ q := by
  have hi : mm_L μ q = mm_L μ q := rfl
  have hp : mm_P μ = mm_P μ := rfl
  have r_a0 : rch (mm_P μ) a0 [] a0 := rfl
  obtain ⟨_, h⟩ := ite_p h
  obtain ⟨x4, e4, h⟩ := bd h
  rcases ite_e h with ⟨_, h⟩ | ⟨_, h⟩
  · have h := Option.some.inj h
    subst h
    exact hi
  · rcases ite_e h with ⟨_, h⟩ | ⟨_, h⟩
    · have h := Option.some.inj h
      subst h
      exact hi
    · obtain ⟨x29, e29, h⟩ := bd h
      have hi := (j_X11_saidTo e29 ).trans hi
      have hp := (p_X11_saidTo e29).trans hp
      have h := Option.some.inj h
      subst h
      exact hi
theorem j_X11_skill_J213 {a0 : Nat} {l1 : Int32} {μ : Mm} {x : (Int32 × Mm)} {q : Nat} (h : f_X11_skill_J213 a0 l1 μ = some x)  : mm_L ((fun (q : (Int32 × Mm)) => q.2) x) q = mm_L μ q := by
  have hi : mm_L μ q = mm_L μ q := rfl
  have hp : mm_P μ = mm_P μ := rfl
  have r_a0 : rch (mm_P μ) a0 [] a0 := rfl
  obtain ⟨x214, e214, h⟩ := bd h
  have r_x214 := rch_f r_a0 e214 hp
  obtain ⟨x218, e218, h⟩ := bd h
  have h := Option.some.inj h
  subst h
  exact hi
theorem j_X11_skill_J207 {a0 : Nat} {l1 : Int32} {l2 : Int32} {l3 : Int32} {μ : Mm} {x : ((Int32 × Mm) ⊕ (Mm))} {q : Nat} (h : f_X11_skill_J207 a0 l1 l2 l3 μ = some x)  : mm_L ((sm (fun (q : Int32 × Mm) => q.2) (fun (q : Mm) => q)) x) q = mm_L μ q := by
  have hi : mm_L μ q = mm_L μ q := rfl
  have hp : mm_P μ = mm_P μ := rfl
  have r_a0 : rch (mm_P μ) a0 [] a0 := rfl
  obtain ⟨v207, e207, h⟩ := bd h
  have h := Option.some.inj h
  subst h
  exact hi
theorem j_X11_skill_J196 {a0 : Nat} {l1 : Int32} {l2 : Int32} {l3 : Int32} {l4 : Int32} {k0 : Nat} {k1 : Int32} {k2 : Int32} {k3 : Int32} {μ : Mm} {x : ((Int32 × Mm) ⊕ (Mm))} {q : Nat} (h : f_X11_skill_J196 a0 l1 l2 l3 l4 k0 k1 k2 k3 μ = some x)  : mm_L ((sm (fun (q : Int32 × Mm) => q.2) (fun (q : Mm) => q)) x) q = mm_L μ q := by
  have hi : mm_L μ q = mm_L μ q := rfl
  have hp : mm_P μ = mm_P μ := rfl
  have r_a0 : rch (mm_P μ) a0 [] a0 := rfl
  have r_k0 : rch (mm_P μ) k0 [] k0 := rfl
  obtain ⟨x197, e197, h⟩ := bd h
  obtain ⟨μ200, e200, h⟩ := bd h
  have hi := (kj_paI e200).trans hi
  have hp := (kp_paI e200).trans hp
  obtain ⟨v201, e201, h⟩ := bd h
  have h := Option.some.inj h
  subst h
  exact hi
theorem j_X11_skill_J165 {a0 : Nat} {l1 : Int32} {l2 : Int32} {l3 : Int32} {l4 : Int32} {k0 : Int32} {μ : Mm} {x : ((Int32 × Mm) ⊕ (Mm))} {q : Nat} (h : f_X11_skill_J165 a0 l1 l2 l3 l4 k0 μ = some x)  : mm_L ((sm (fun (q : Int32 × Mm) => q.2) (fun (q : Mm) => q)) x) q = mm_L μ q := by
  have hi : mm_L μ q = mm_L μ q := rfl
  have hp : mm_P μ = mm_P μ := rfl
  have r_a0 : rch (mm_P μ) a0 [] a0 := rfl
  obtain ⟨x168, e168, h⟩ := bd h
  have r_x168 := rch_f r_a0 e168 hp
  obtain ⟨x174, e174, h⟩ := bd h
  have r_x174 := rch_f r_a0 e174 hp
  obtain ⟨x182, e182, h⟩ := bd h
  rcases ite_e h with ⟨_, h⟩ | ⟨_, h⟩
  · exact (j_X11_skill_J196 h ).trans hi
  · exact (j_X11_skill_J196 h ).trans hi
theorem j_X11_skill_J140 {a0 : Nat} {l1 : Int32} {l2 : Int32} {l3 : Int32} {l4 : Int32} {μ : Mm} {x : ((Int32 × Mm) ⊕ (Mm))} {q : Nat} (h : f_X11_skill_J140 a0 l1 l2 l3 l4 μ = some x)  : mm_L ((sm (fun (q : Int32 × Mm) => q.2) (fun (q : Mm) => q)) x) q = mm_L μ q := by
  have hi : mm_L μ q = mm_L μ q := rfl
  have hp : mm_P μ = mm_P μ := rfl
  have r_a0 : rch (mm_P μ) a0 [] a0 := rfl
  exact (j_X11_skill_J165 h ).trans hi
theorem j_X11_skill_L97 {a0 : Nat} {l1 : Int32} {l2 : Int32} {l3 : Int32} {s97 : Int32 × Mm} {x : ((Int32 × Mm) ⊕ (Mm))} {q : Nat} (h : f_X11_skill_L97 a0 l1 l2 l3 s97 = some x)  : mm_L (sm (fun (q : Int32 × Mm) => q.2) (fun (q : Mm) => q) x) q = mm_L ((fun (q : Int32 × Mm) => q.2) s97) q := by
  have hi : mm_L ((fun (q : Int32 × Mm) => q.2) s97) q = mm_L ((fun (q : Int32 × Mm) => q.2) s97) q := rfl
  have hp : mm_P ((fun (q : Int32 × Mm) => q.2) s97) = mm_P ((fun (q : Int32 × Mm) => q.2) s97) := rfl
  have r_a0 : rch (mm_P ((fun (q : Int32 × Mm) => q.2) s97)) a0 [] a0 := rfl
  obtain ⟨x100, e100, h⟩ := bd h
  have r_x100 := rch_f r_a0 e100 hp
  obtain ⟨x104, e104, h⟩ := bd h
  rcases ite_e h with ⟨_, h⟩ | ⟨_, h⟩
  · have h := Option.some.inj h
    subst h
    exact hi
  · obtain ⟨x109, e109, h⟩ := bd h
    have r_x109 := rch_f r_a0 e109 hp
    obtain ⟨x113, e113, h⟩ := bd h
    obtain ⟨x116, e116, h⟩ := bd h
    obtain ⟨x119, e119, h⟩ := bd h
    rcases ite_e h with ⟨_, h⟩ | ⟨_, h⟩
    · exact (j_X11_skill_J140 h ).trans hi
    · obtain ⟨x134, e134, h⟩ := bd h
      rcases ite_e h with ⟨_, h⟩ | ⟨_, h⟩
      · obtain ⟨x145, e145, h⟩ := bd h
        have r_x145 := rch_f r_a0 e145 hp
        obtain ⟨x153, e153, h⟩ := bd h
        obtain ⟨x155, e155, h⟩ := bd h
        have r_x155 := rch_f r_a0 e155 hp
        obtain ⟨x163, e163, h⟩ := bd h
        exact (j_X11_skill_J165 h ).trans hi
      · exact (j_X11_skill_J140 h ).trans hi
theorem j_X11_skill_W97 {a0 : Nat} {l1 : Int32} {l2 : Int32} {l3 : Int32} {s97 : Int32 × Mm} {b : Mm} {q : Nat} (h : whl (f_X11_skill_L97 a0 l1 l2 l3) s97 = some b)  : mm_L ((fun (q : Mm) => q) b) q = mm_L ((fun (q : Int32 × Mm) => q.2) s97) q := by
  have key := whl_inv (P := fun s' => mm_L ((fun (q : Int32 × Mm) => q.2) s') q = mm_L ((fun (q : Int32 × Mm) => q.2) s97) q ∧ mm_P ((fun (q : Int32 × Mm) => q.2) s') = mm_P ((fun (q : Int32 × Mm) => q.2) s97)) (Q := fun b' => mm_L ((fun (q : Mm) => q) b') q = mm_L ((fun (q : Int32 × Mm) => q.2) s97) q) (fun s' x hs1 hx => ?_) ⟨rfl, rfl⟩ h
  · exact key
  · obtain ⟨h1, hP⟩ := hs1
    have k1 := (j_X11_skill_L97 hx ).trans h1
    have k2 := (p_X11_skill_L97 hx).trans hP
    cases x with
    | inl z => exact ⟨k1, k2⟩
    | inr z => exact k1
theorem j_X11_skill_J94 {a0 : Nat} {l1 : Int32} {l2 : Int32} {l3 : Int32} {μ : Mm} {x : ((Int32 × Mm) ⊕ (Mm))} {q : Nat} (h : f_X11_skill_J94 a0 l1 l2 l3 μ = some x)  : mm_L ((sm (fun (q : Int32 × Mm) => q.2) (fun (q : Mm) => q)) x) q = mm_L μ q := by
  have hi : mm_L μ q = mm_L μ q := rfl
  have hp : mm_P μ = mm_P μ := rfl
  have r_a0 : rch (mm_P μ) a0 [] a0 := rfl
  obtain ⟨b97, w97, h⟩ := bd h
  have hi := (j_X11_skill_W97 w97 ).trans hi
  have hp := (p_X11_skill_W97 w97).trans hp
  exact (j_X11_skill_J207 h ).trans hi
theorem j_X11_skill_L49 {a0 : Nat} {l1 : Int32} {l2 : Int32} {l3 : Int32} {s49 : Int32 × Mm} {x : ((Int32 × Mm) ⊕ (Mm))} {q : Nat} (h : f_X11_skill_L49 a0 l1 l2 l3 s49 = some x)  : mm_L (sm (fun (q : Int32 × Mm) => q.2) (fun (q : Mm) => q) x) q = mm_L ((fun (q : Int32 × Mm) => q.2) s49) q := by
  have hi : mm_L ((fun (q : Int32 × Mm) => q.2) s49) q = mm_L ((fun (q : Int32 × Mm) => q.2) s49) q := rfl
  have hp : mm_P ((fun (q : Int32 × Mm) => q.2) s49) = mm_P ((fun (q : Int32 × Mm) => q.2) s49) := rfl
  have r_a0 : rch (mm_P ((fun (q : Int32 × Mm) => q.2) s49)) a0 [] a0 := rfl
  obtain ⟨x52, e52, h⟩ := bd h
  have r_x52 := rch_f r_a0 e52 hp
  obtain ⟨x56, e56, h⟩ := bd h
  rcases ite_e h with ⟨_, h⟩ | ⟨_, h⟩
  · have h := Option.some.inj h
    subst h
    exact hi
  · obtain ⟨x61, e61, h⟩ := bd h
    have r_x61 := rch_f r_a0 e61 hp
    obtain ⟨x70, e70, h⟩ := bd h
    have r_x70 := rch_f r_a0 e70 hp
    obtain ⟨x75, e75, h⟩ := bd h
    obtain ⟨x77, e77, h⟩ := bd h
    have r_x77 := rch_f r_a0 e77 hp
    obtain ⟨x82, e82, h⟩ := bd h
    obtain ⟨x84, e84, h⟩ := bd h
    obtain ⟨μ87, e87, h⟩ := bd h
    have hi := (kj_paI e87).trans hi
    have hp := (kp_paI e87).trans hp
    obtain ⟨v88, e88, h⟩ := bd h
    have h := Option.some.inj h
    subst h
    exact hi
theorem j_X11_skill_W49 {a0 : Nat} {l1 : Int32} {l2 : Int32} {l3 : Int32} {s49 : Int32 × Mm} {b : Mm} {q : Nat} (h : whl (f_X11_skill_L49 a0 l1 l2 l3) s49 = some b)  : mm_L ((fun (q : Mm) => q) b) q = mm_L ((fun (q : Int32 × Mm) => q.2) s49) q := by
  have key := whl_inv (P := fun s' => mm_L ((fun (q : Int32 × Mm) => q.2) s') q = mm_L ((fun (q : Int32 × Mm) => q.2) s49) q ∧ mm_P ((fun (q : Int32 × Mm) => q.2) s') = mm_P ((fun (q : Int32 × Mm) => q.2) s49)) (Q := fun b' => mm_L ((fun (q : Mm) => q) b') q = mm_L ((fun (q : Int32 × Mm) => q.2) s49) q) (fun s' x hs1 hx => ?_) ⟨rfl, rfl⟩ h
  · exact key
  · obtain ⟨h1, hP⟩ := hs1
    have k1 := (j_X11_skill_L49 hx ).trans h1
    have k2 := (p_X11_skill_L49 hx).trans hP
    cases x with
    | inl z => exact ⟨k1, k2⟩
    | inr z => exact k1
theorem j_X11_skill_L41 {a0 : Nat} {l1 : Int32} {l2 : Int32} {s41 : Int32 × Mm} {x : ((Int32 × Mm) ⊕ (Mm))} {q : Nat} (h : f_X11_skill_L41 a0 l1 l2 s41 = some x)  : mm_L (sm (fun (q : Int32 × Mm) => q.2) (fun (q : Mm) => q) x) q = mm_L ((fun (q : Int32 × Mm) => q.2) s41) q := by
  have hi : mm_L ((fun (q : Int32 × Mm) => q.2) s41) q = mm_L ((fun (q : Int32 × Mm) => q.2) s41) q := rfl
  have hp : mm_P ((fun (q : Int32 × Mm) => q.2) s41) = mm_P ((fun (q : Int32 × Mm) => q.2) s41) := rfl
  have r_a0 : rch (mm_P ((fun (q : Int32 × Mm) => q.2) s41)) a0 [] a0 := rfl
  rcases ite_e h with ⟨_, h⟩ | ⟨_, h⟩
  · have h := Option.some.inj h
    subst h
    exact hi
  · obtain ⟨b49, w49, h⟩ := bd h
    have hi := (j_X11_skill_W49 w49 ).trans hi
    have hp := (p_X11_skill_W49 w49).trans hp
    exact (j_X11_skill_J94 h ).trans hi
theorem j_X11_skill_W41 {a0 : Nat} {l1 : Int32} {l2 : Int32} {s41 : Int32 × Mm} {b : Mm} {q : Nat} (h : whl (f_X11_skill_L41 a0 l1 l2) s41 = some b)  : mm_L ((fun (q : Mm) => q) b) q = mm_L ((fun (q : Int32 × Mm) => q.2) s41) q := by
  have key := whl_inv (P := fun s' => mm_L ((fun (q : Int32 × Mm) => q.2) s') q = mm_L ((fun (q : Int32 × Mm) => q.2) s41) q ∧ mm_P ((fun (q : Int32 × Mm) => q.2) s') = mm_P ((fun (q : Int32 × Mm) => q.2) s41)) (Q := fun b' => mm_L ((fun (q : Mm) => q) b') q = mm_L ((fun (q : Int32 × Mm) => q.2) s41) q) (fun s' x hs1 hx => ?_) ⟨rfl, rfl⟩ h
  · exact key
  · obtain ⟨h1, hP⟩ := hs1
    have k1 := (j_X11_skill_L41 hx ).trans h1
    have k2 := (p_X11_skill_L41 hx).trans hP
    cases x with
    | inl z => exact ⟨k1, k2⟩
    | inr z => exact k1
theorem j_X11_skill_J39 {a0 : Nat} {l1 : Int32} {l2 : Int32} {μ : Mm} {x : (Int32 × Mm)} {q : Nat} (h : f_X11_skill_J39 a0 l1 l2 μ = some x)  : mm_L ((fun (q : (Int32 × Mm)) => q.2) x) q = mm_L μ q := by
  have hi : mm_L μ q = mm_L μ q := rfl
  have hp : mm_P μ = mm_P μ := rfl
  have r_a0 : rch (mm_P μ) a0 [] a0 := rfl
  obtain ⟨b41, w41, h⟩ := bd h
  have hi := (j_X11_skill_W41 w41 ).trans hi
  have hp := (p_X11_skill_W41 w41).trans hp
  exact (j_X11_skill_J213 h ).trans hi
theorem j_X11_skill_L20 {a0 : Nat} {l1 : Int32} {l2 : Int32} {s20 : Int32 × Mm} {x : ((Int32 × Mm) ⊕ (Mm))} {q : Nat} (h : f_X11_skill_L20 a0 l1 l2 s20 = some x)  : mm_L (sm (fun (q : Int32 × Mm) => q.2) (fun (q : Mm) => q) x) q = mm_L ((fun (q : Int32 × Mm) => q.2) s20) q := by
  have hi : mm_L ((fun (q : Int32 × Mm) => q.2) s20) q = mm_L ((fun (q : Int32 × Mm) => q.2) s20) q := rfl
  have hp : mm_P ((fun (q : Int32 × Mm) => q.2) s20) = mm_P ((fun (q : Int32 × Mm) => q.2) s20) := rfl
  have r_a0 : rch (mm_P ((fun (q : Int32 × Mm) => q.2) s20)) a0 [] a0 := rfl
  rcases ite_e h with ⟨_, h⟩ | ⟨_, h⟩
  · have h := Option.some.inj h
    subst h
    exact hi
  · obtain ⟨x27, e27, h⟩ := bd h
    have r_x27 := rch_f r_a0 e27 hp
    obtain ⟨μ32, e32, h⟩ := bd h
    have hi := (kj_paI e32).trans hi
    have hp := (kp_paI e32).trans hp
    obtain ⟨v33, e33, h⟩ := bd h
    have h := Option.some.inj h
    subst h
    exact hi
theorem j_X11_skill_W20 {a0 : Nat} {l1 : Int32} {l2 : Int32} {s20 : Int32 × Mm} {b : Mm} {q : Nat} (h : whl (f_X11_skill_L20 a0 l1 l2) s20 = some b)  : mm_L ((fun (q : Mm) => q) b) q = mm_L ((fun (q : Int32 × Mm) => q.2) s20) q := by
  have key := whl_inv (P := fun s' => mm_L ((fun (q : Int32 × Mm) => q.2) s') q = mm_L ((fun (q : Int32 × Mm) => q.2) s20) q ∧ mm_P ((fun (q : Int32 × Mm) => q.2) s') = mm_P ((fun (q : Int32 × Mm) => q.2) s20)) (Q := fun b' => mm_L ((fun (q : Mm) => q) b') q = mm_L ((fun (q : Int32 × Mm) => q.2) s20) q) (fun s' x hs1 hx => ?_) ⟨rfl, rfl⟩ h
  · exact key
  · obtain ⟨h1, hP⟩ := hs1
    have k1 := (j_X11_skill_L20 hx ).trans h1
    have k2 := (p_X11_skill_L20 hx).trans hP
    cases x with
    | inl z => exact ⟨k1, k2⟩
    | inr z => exact k1
theorem j_X11_skill {a0 : Nat} {l1 : Int32} {l2 : Int32} {μ : Mm} {x : (Int32 × Mm)} {q : Nat} (h : f_X11_skill a0 l1 l2 μ = some x)  : mm_L ((fun (q : (Int32 × Mm)) => q.2) x) q = mm_L μ q := by
  have hi : mm_L μ q = mm_L μ q := rfl
  have hp : mm_P μ = mm_P μ := rfl
  have r_a0 : rch (mm_P μ) a0 [] a0 := rfl
  obtain ⟨_, h⟩ := ite_p h
  obtain ⟨x2, e2, h⟩ := bd h
  rcases ite_e h with ⟨_, h⟩ | ⟨_, h⟩
  · have h := Option.some.inj h
    subst h
    exact hi
  · obtain ⟨x9, e9, h⟩ := bd h
    rcases ite_e h with ⟨_, h⟩ | ⟨_, h⟩
    · have h := Option.some.inj h
      subst h
      exact hi
    · obtain ⟨b20, w20, h⟩ := bd h
      have hi := (j_X11_skill_W20 w20 ).trans hi
      have hp := (p_X11_skill_W20 w20).trans hp
      exact (j_X11_skill_J39 h ).trans hi
theorem j_X11_sure {a0 : Nat} {l1 : Int32} {l2 : Int32} {μ : Mm} {x : (Int32 × Mm)} {q : Nat} (h : f_X11_sure a0 l1 l2 μ = some x) (c_a0 : ∀ p ∈ ([[57]] : List (List Nat)), ¬ rch (mm_P μ) a0 p q) : mm_L ((fun (q : (Int32 × Mm)) => q.2) x) q = mm_L μ q := by
  have hi : mm_L μ q = mm_L μ q := rfl
  have hp : mm_P μ = mm_P μ := rfl
  have r_a0 : rch (mm_P μ) a0 [] a0 := rfl
  obtain ⟨_, h⟩ := ite_p h
  obtain ⟨x2, e2, h⟩ := bd h
  rcases ite_e h with ⟨_, h⟩ | ⟨_, h⟩
  · have h := Option.some.inj h
    subst h
    exact hi
  · obtain ⟨x9, e9, h⟩ := bd h
    rcases ite_e h with ⟨_, h⟩ | ⟨_, h⟩
    · have h := Option.some.inj h
      subst h
      exact hi
    · obtain ⟨x20, e20, h⟩ := bd h
      have hi := (j_X11_findFits e20 (rch_sub c_a0 r_a0 (by decide) hp)).trans hi
      have hp := (p_X11_findFits e20).trans hp
      obtain ⟨b29, w29, h⟩ := bd h
      have h := Option.some.inj h
      subst h
      exact hi
theorem j_X11_take_J90 {a0 : Nat} {μ : Mm} {x : (Int32 × Mm)} {q : Nat} (h : f_X11_take_J90 a0 μ = some x)  : mm_L ((fun (q : (Int32 × Mm)) => q.2) x) q = mm_L μ q := by
  have hi : mm_L μ q = mm_L μ q := rfl
  have hp : mm_P μ = mm_P μ := rfl
  have r_a0 : rch (mm_P μ) a0 [] a0 := rfl
  obtain ⟨x91, e91, h⟩ := bd h
  have h := Option.some.inj h
  subst h
  exact hi
theorem j_X11_take_L59 {a0 : Nat} {l1 : Int32} {s59 : Int32 × Mm} {x : ((Int32 × Mm) ⊕ (Mm))} {q : Nat} (h : f_X11_take_L59 a0 l1 s59 = some x)  : mm_L (sm (fun (q : Int32 × Mm) => q.2) (fun (q : Mm) => q) x) q = mm_L ((fun (q : Int32 × Mm) => q.2) s59) q := by
  have hi : mm_L ((fun (q : Int32 × Mm) => q.2) s59) q = mm_L ((fun (q : Int32 × Mm) => q.2) s59) q := rfl
  have hp : mm_P ((fun (q : Int32 × Mm) => q.2) s59) = mm_P ((fun (q : Int32 × Mm) => q.2) s59) := rfl
  have r_a0 : rch (mm_P ((fun (q : Int32 × Mm) => q.2) s59)) a0 [] a0 := rfl
  rcases ite_e h with ⟨_, h⟩ | ⟨_, h⟩
  · have h := Option.some.inj h
    subst h
    exact hi
  · obtain ⟨x66, e66, h⟩ := bd h
    have r_x66 := rch_f r_a0 e66 hp
    obtain ⟨x71, e71, h⟩ := bd h
    have r_x71 := rch_f r_a0 e71 hp
    obtain ⟨x82, e82, h⟩ := bd h
    obtain ⟨μ83, e83, h⟩ := bd h
    have hi := (kj_paI e83).trans hi
    have hp := (kp_paI e83).trans hp
    obtain ⟨v84, e84, h⟩ := bd h
    have h := Option.some.inj h
    subst h
    exact hi
theorem j_X11_take_W59 {a0 : Nat} {l1 : Int32} {s59 : Int32 × Mm} {b : Mm} {q : Nat} (h : whl (f_X11_take_L59 a0 l1) s59 = some b)  : mm_L ((fun (q : Mm) => q) b) q = mm_L ((fun (q : Int32 × Mm) => q.2) s59) q := by
  have key := whl_inv (P := fun s' => mm_L ((fun (q : Int32 × Mm) => q.2) s') q = mm_L ((fun (q : Int32 × Mm) => q.2) s59) q ∧ mm_P ((fun (q : Int32 × Mm) => q.2) s') = mm_P ((fun (q : Int32 × Mm) => q.2) s59)) (Q := fun b' => mm_L ((fun (q : Mm) => q) b') q = mm_L ((fun (q : Int32 × Mm) => q.2) s59) q) (fun s' x hs1 hx => ?_) ⟨rfl, rfl⟩ h
  · exact key
  · obtain ⟨h1, hP⟩ := hs1
    have k1 := (j_X11_take_L59 hx ).trans h1
    have k2 := (p_X11_take_L59 hx).trans hP
    cases x with
    | inl z => exact ⟨k1, k2⟩
    | inr z => exact k1
theorem j_X11_take {a0 : Nat} {l1 : Int32} {μ : Mm} {x : (Int32 × Mm)} {q : Nat} (h : f_X11_take a0 l1 μ = some x) (c_a0 : ∀ p ∈ ([[]] : List (List Nat)), ¬ rch (mm_P μ) a0 p q) : mm_L ((fun (q : (Int32 × Mm)) => q.2) x) q = mm_L μ q := by
  have hi : mm_L μ q = mm_L μ q := rfl
  have hp : mm_P μ = mm_P μ := rfl
  have r_a0 : rch (mm_P μ) a0 [] a0 := rfl
  obtain ⟨_, h⟩ := ite_p h
  obtain ⟨x1, e1, h⟩ := bd h
  rcases ite_e h with ⟨_, h⟩ | ⟨_, h⟩
  · have h := Option.some.inj h
    subst h
    exact hi
  · obtain ⟨x11, e11, h⟩ := bd h
    have r_x11 := rch_f r_a0 e11 hp
    obtain ⟨x15, e15, h⟩ := bd h
    rcases ite_e h with ⟨_, h⟩ | ⟨_, h⟩
    · have h := Option.some.inj h
      subst h
      exact hi
    · obtain ⟨μ24, e24, h⟩ := bd h
      have hi := (kj_pfZ e24).trans hi
      have hp := (kp_pfZ e24).trans hp
      obtain ⟨x29, e29, h⟩ := bd h
      have r_x29 := rch_f r_a0 e29 hp
      obtain ⟨x33, e33, h⟩ := bd h
      obtain ⟨μ34, e34, h⟩ := bd h
      have hi := (kj_pfI e34).trans hi
      have hp := (kp_pfI e34).trans hp
      obtain ⟨x39, e39, h⟩ := bd h
      have r_x39 := rch_f r_a0 e39 hp
      obtain ⟨x43, e43, h⟩ := bd h
      obtain ⟨μ44, e44, h⟩ := bd h
      have hi := (kj_pfI e44).trans hi
      have hp := (kp_pfI e44).trans hp
      obtain ⟨x49, e49, h⟩ := bd h
      have r_x49 := rch_f r_a0 e49 hp
      obtain ⟨x53, e53, h⟩ := bd h
      obtain ⟨μ54, e54, h⟩ := bd h
      have hi := (kj_pfL e54 (rch_ne c_a0 (by decide) r_a0)).trans hi
      have hp := (kp_pfL e54).trans hp
      obtain ⟨b59, w59, h⟩ := bd h
      have hi := (j_X11_take_W59 w59 ).trans hi
      have hp := (p_X11_take_W59 w59).trans hp
      exact (j_X11_take_J90 h ).trans hi
theorem j_X11_fails {a0 : Nat} {l1 : Int32} {μ : Mm} {x : (Int32 × Mm)} {q : Nat} (h : f_X11_fails a0 l1 μ = some x)  : mm_L ((fun (q : (Int32 × Mm)) => q.2) x) q = mm_L μ q := by
  have hi : mm_L μ q = mm_L μ q := rfl
  have hp : mm_P μ = mm_P μ := rfl
  have r_a0 : rch (mm_P μ) a0 [] a0 := rfl
  obtain ⟨_, h⟩ := ite_p h
  obtain ⟨μ2, e2, h⟩ := bd h
  have hi := (kj_pfI e2).trans hi
  have hp := (kp_pfI e2).trans hp
  obtain ⟨x7, e7, h⟩ := bd h
  obtain ⟨μ10, e10, h⟩ := bd h
  have hi := (kj_pfI e10).trans hi
  have hp := (kp_pfI e10).trans hp
  have h := Option.some.inj h
  subst h
  exact hi
theorem j_X11_readNumber {a0 : Nat} {l1 : Int32} {l2 : Int32} {μ : Mm} {x : (Int32 × Mm)} {q : Nat} (h : f_X11_readNumber a0 l1 l2 μ = some x) (c_a0 : ∀ p ∈ ([[]] : List (List Nat)), ¬ rch (mm_P μ) a0 p q) : mm_L ((fun (q : (Int32 × Mm)) => q.2) x) q = mm_L μ q := by
  have hi : mm_L μ q = mm_L μ q := rfl
  have hp : mm_P μ = mm_P μ := rfl
  have r_a0 : rch (mm_P μ) a0 [] a0 := rfl
  obtain ⟨_, h⟩ := ite_p h
  obtain ⟨x1, e1, h⟩ := bd h
  rcases ite_e h with ⟨_, h⟩ | ⟨_, h⟩
  · obtain ⟨x15, e15, h⟩ := bd h
    obtain ⟨x20, e20, h⟩ := bd h
    rcases ite_e h with ⟨_, h⟩ | ⟨_, h⟩
    · obtain ⟨x28, e28, h⟩ := bd h
      have hi := (j_X11_fails e28 ).trans hi
      have hp := (p_X11_fails e28).trans hp
      obtain ⟨_, h⟩ := ite_p h
      have h := Option.some.inj h
      subst h
      exact hi
    · obtain ⟨x34, e34, h⟩ := bd h
      obtain ⟨μ37, e37, h⟩ := bd h
      have hi := (kj_pfI e37).trans hi
      have hp := (kp_pfI e37).trans hp
      obtain ⟨x41, e41, h⟩ := bd h
      have hi := (j_X11_scan e41 (rch_sub c_a0 r_a0 (by decide) hp)).trans hi
      have hp := (p_X11_scan e41).trans hp
      have h := Option.some.inj h
      subst h
      exact hi
  · obtain ⟨x10, e10, h⟩ := bd h
    have hi := (j_X11_fails e10 ).trans hi
    have hp := (p_X11_fails e10).trans hp
    obtain ⟨_, h⟩ := ite_p h
    have h := Option.some.inj h
    subst h
    exact hi
theorem j_X11_readInto {a0 : Nat} {l1 : Nat} {l2 : Int32} {l3 : Int32} {l4 : Int32} {μ : Mm} {x : (Int32 × Mm)} {q : Nat} (h : f_X11_readInto a0 l1 l2 l3 l4 μ = some x) (c_a0 : ∀ p ∈ ([[]] : List (List Nat)), ¬ rch (mm_P μ) a0 p q) : mm_L ((fun (q : (Int32 × Mm)) => q.2) x) q = mm_L μ q := by
  have hi : mm_L μ q = mm_L μ q := rfl
  have hp : mm_P μ = mm_P μ := rfl
  have r_a0 : rch (mm_P μ) a0 [] a0 := rfl
  have r_l1 : rch (mm_P μ) l1 [] l1 := rfl
  obtain ⟨_, h⟩ := ite_p h
  obtain ⟨x4, e4, h⟩ := bd h
  have hi := (j_X11_readNumber e4 (rch_sub c_a0 r_a0 (by decide) hp)).trans hi
  have hp := (p_X11_readNumber e4).trans hp
  rcases ite_e h with ⟨_, h⟩ | ⟨_, h⟩
  · have h := Option.some.inj h
    subst h
    exact hi
  · obtain ⟨x15, e15, h⟩ := bd h
    obtain ⟨μ18, e18, h⟩ := bd h
    have hi := (kj_paI e18).trans hi
    have hp := (kp_paI e18).trans hp
    have h := Option.some.inj h
    subst h
    exact hi
theorem j_X11_readWho {a0 : Nat} {l1 : Nat} {l2 : Int32} {μ : Mm} {x : (Int32 × Mm)} {q : Nat} (h : f_X11_readWho a0 l1 l2 μ = some x) (c_a0 : ∀ p ∈ ([[]] : List (List Nat)), ¬ rch (mm_P μ) a0 p q) : mm_L ((fun (q : (Int32 × Mm)) => q.2) x) q = mm_L μ q := by
  have hi : mm_L μ q = mm_L μ q := rfl
  have hp : mm_P μ = mm_P μ := rfl
  have r_a0 : rch (mm_P μ) a0 [] a0 := rfl
  have r_l1 : rch (mm_P μ) l1 [] l1 := rfl
  obtain ⟨_, h⟩ := ite_p h
  obtain ⟨x1, e1, h⟩ := bd h
  rcases ite_e h with ⟨_, h⟩ | ⟨_, h⟩
  · obtain ⟨x15, e15, h⟩ := bd h
    rcases ite_e h with ⟨_, h⟩ | ⟨_, h⟩
    · obtain ⟨x26, e26, h⟩ := bd h
      have hi := (j_X11_fails e26 ).trans hi
      have hp := (p_X11_fails e26).trans hp
      obtain ⟨_, h⟩ := ite_p h
      have h := Option.some.inj h
      subst h
      exact hi
    · obtain ⟨μ33, e33, h⟩ := bd h
      have hi := (kj_paI e33).trans hi
      have hp := (kp_paI e33).trans hp
      obtain ⟨x35, e35, h⟩ := bd h
      have hi := (j_X11_scan e35 (rch_sub c_a0 r_a0 (by decide) hp)).trans hi
      have hp := (p_X11_scan e35).trans hp
      have h := Option.some.inj h
      subst h
      exact hi
  · obtain ⟨x10, e10, h⟩ := bd h
    have hi := (j_X11_fails e10 ).trans hi
    have hp := (p_X11_fails e10).trans hp
    obtain ⟨_, h⟩ := ite_p h
    have h := Option.some.inj h
    subst h
    exact hi
theorem j_X11_readByPerson_J241 {a0 : Nat} {l2 : Int32} {l5 : Int32} {μ : Mm} {x : (Int32 × Mm)} {q : Nat} (h : f_X11_readByPerson_J241 a0 l2 l5 μ = some x)  : mm_L ((fun (q : (Int32 × Mm)) => q.2) x) q = mm_L μ q := by
  have hi : mm_L μ q = mm_L μ q := rfl
  have hp : mm_P μ = mm_P μ := rfl
  have r_a0 : rch (mm_P μ) a0 [] a0 := rfl
  rcases ite_e h with ⟨_, h⟩ | ⟨_, h⟩
  · obtain ⟨_, h⟩ := ite_p h
    have h := Option.some.inj h
    subst h
    exact hi
  · obtain ⟨x247, e247, h⟩ := bd h
    have r_x247 := rch_f r_a0 e247 hp
    obtain ⟨x255, e255, h⟩ := bd h
    obtain ⟨μ258, e258, h⟩ := bd h
    have hi := (kj_paI e258).trans hi
    have hp := (kp_paI e258).trans hp
    obtain ⟨_, h⟩ := ite_p h
    have h := Option.some.inj h
    subst h
    exact hi
theorem j_X11_readByPerson_J239 {a0 : Nat} {l2 : Int32} {k0 : Int32} {μ : Mm} {x : (Int32 × Mm)} {q : Nat} (h : f_X11_readByPerson_J239 a0 l2 k0 μ = some x)  : mm_L ((fun (q : (Int32 × Mm)) => q.2) x) q = mm_L μ q := by
  have hi : mm_L μ q = mm_L μ q := rfl
  have hp : mm_P μ = mm_P μ := rfl
  have r_a0 : rch (mm_P μ) a0 [] a0 := rfl
  exact (j_X11_readByPerson_J241 h ).trans hi
theorem j_X11_readByPerson_J238 {a0 : Nat} {l2 : Int32} {μ : Mm} {x : (Int32 × Mm)} {q : Nat} (h : f_X11_readByPerson_J238 a0 l2 μ = some x)  : mm_L ((fun (q : (Int32 × Mm)) => q.2) x) q = mm_L μ q := by
  have hi : mm_L μ q = mm_L μ q := rfl
  have hp : mm_P μ = mm_P μ := rfl
  have r_a0 : rch (mm_P μ) a0 [] a0 := rfl
  exact (j_X11_readByPerson_J239 h ).trans hi
theorem j_X11_readByPerson_J166 {a0 : Nat} {l2 : Int32} {k0 : Int32} {μ : Mm} {x : (Int32 × Mm)} {q : Nat} (h : f_X11_readByPerson_J166 a0 l2 k0 μ = some x)  : mm_L ((fun (q : (Int32 × Mm)) => q.2) x) q = mm_L μ q := by
  have hi : mm_L μ q = mm_L μ q := rfl
  have hp : mm_P μ = mm_P μ := rfl
  have r_a0 : rch (mm_P μ) a0 [] a0 := rfl
  exact (j_X11_readByPerson_J241 h ).trans hi
theorem j_X11_readByPerson_J165 {a0 : Nat} {l2 : Int32} {μ : Mm} {x : (Int32 × Mm)} {q : Nat} (h : f_X11_readByPerson_J165 a0 l2 μ = some x)  : mm_L ((fun (q : (Int32 × Mm)) => q.2) x) q = mm_L μ q := by
  have hi : mm_L μ q = mm_L μ q := rfl
  have hp : mm_P μ = mm_P μ := rfl
  have r_a0 : rch (mm_P μ) a0 [] a0 := rfl
  exact (j_X11_readByPerson_J166 h ).trans hi
theorem j_X11_readByPerson_J116 {a0 : Nat} {l2 : Int32} {k0 : Int32} {μ : Mm} {x : (Int32 × Mm)} {q : Nat} (h : f_X11_readByPerson_J116 a0 l2 k0 μ = some x)  : mm_L ((fun (q : (Int32 × Mm)) => q.2) x) q = mm_L μ q := by
  have hi : mm_L μ q = mm_L μ q := rfl
  have hp : mm_P μ = mm_P μ := rfl
  have r_a0 : rch (mm_P μ) a0 [] a0 := rfl
  exact (j_X11_readByPerson_J241 h ).trans hi
theorem j_X11_readByPerson_J115 {a0 : Nat} {l2 : Int32} {μ : Mm} {x : (Int32 × Mm)} {q : Nat} (h : f_X11_readByPerson_J115 a0 l2 μ = some x)  : mm_L ((fun (q : (Int32 × Mm)) => q.2) x) q = mm_L μ q := by
  have hi : mm_L μ q = mm_L μ q := rfl
  have hp : mm_P μ = mm_P μ := rfl
  have r_a0 : rch (mm_P μ) a0 [] a0 := rfl
  exact (j_X11_readByPerson_J116 h ).trans hi
theorem j_X11_readByPerson_J43 {a0 : Nat} {l1 : Int32} {l2 : Int32} {k0 : Int32} {μ : Mm} {x : (Int32 × Mm)} {q : Nat} (h : f_X11_readByPerson_J43 a0 l1 l2 k0 μ = some x) (c_a0 : ∀ p ∈ ([[]] : List (List Nat)), ¬ rch (mm_P μ) a0 p q) : mm_L ((fun (q : (Int32 × Mm)) => q.2) x) q = mm_L μ q := by
  have hi : mm_L μ q = mm_L μ q := rfl
  have hp : mm_P μ = mm_P μ := rfl
  have r_a0 : rch (mm_P μ) a0 [] a0 := rfl
  obtain ⟨x45, e45, h⟩ := bd h
  have r_x45 := rch_f r_a0 e45 hp
  obtain ⟨x52, e52, h⟩ := bd h
  rcases ite_e h with ⟨_, h⟩ | ⟨_, h⟩
  · obtain ⟨x63, e63, h⟩ := bd h
    have hi := (j_X11_fails e63 ).trans hi
    have hp := (p_X11_fails e63).trans hp
    obtain ⟨_, h⟩ := ite_p h
    have h := Option.some.inj h
    subst h
    exact hi
  · obtain ⟨x68, e68, h⟩ := bd h
    have hi := (j_X11_scan e68 (rch_sub c_a0 r_a0 (by decide) hp)).trans hi
    have hp := (p_X11_scan e68).trans hp
    rcases ite_e h with ⟨_, h⟩ | ⟨_, h⟩
    · obtain ⟨x78, e78, h⟩ := bd h
      have r_x78 := rch_f r_a0 e78 hp
      obtain ⟨x86, e86, h⟩ := bd h
      have hi := (j_X11_readWho e86 (rch_sub c_a0 r_a0 (by decide) hp)).trans hi
      have hp := (p_X11_readWho e86).trans hp
      rcases ite_e h with ⟨_, h⟩ | ⟨_, h⟩
      · exact (j_X11_readByPerson_J115 h ).trans hi
      · obtain ⟨x94, e94, h⟩ := bd h
        have r_x94 := rch_f r_a0 e94 hp
        obtain ⟨x105, e105, h⟩ := bd h
        have hi := (j_X11_readInto e105 (rch_sub c_a0 r_a0 (by decide) hp)).trans hi
        have hp := (p_X11_readInto e105).trans hp
        rcases ite_e h with ⟨_, h⟩ | ⟨_, h⟩
        · exact (j_X11_readByPerson_J115 h ).trans hi
        · exact (j_X11_readByPerson_J116 h ).trans hi
    · rcases ite_e h with ⟨_, h⟩ | ⟨_, h⟩
      · obtain ⟨x128, e128, h⟩ := bd h
        have r_x128 := rch_f r_a0 e128 hp
        obtain ⟨x136, e136, h⟩ := bd h
        have hi := (j_X11_readWho e136 (rch_sub c_a0 r_a0 (by decide) hp)).trans hi
        have hp := (p_X11_readWho e136).trans hp
        rcases ite_e h with ⟨_, h⟩ | ⟨_, h⟩
        · exact (j_X11_readByPerson_J165 h ).trans hi
        · obtain ⟨x144, e144, h⟩ := bd h
          have r_x144 := rch_f r_a0 e144 hp
          obtain ⟨x155, e155, h⟩ := bd h
          have hi := (j_X11_readInto e155 (rch_sub c_a0 r_a0 (by decide) hp)).trans hi
          have hp := (p_X11_readInto e155).trans hp
          rcases ite_e h with ⟨_, h⟩ | ⟨_, h⟩
          · exact (j_X11_readByPerson_J165 h ).trans hi
          · exact (j_X11_readByPerson_J166 h ).trans hi
      · obtain ⟨x173, e173, h⟩ := bd h
        have r_x173 := rch_f r_a0 e173 hp
        obtain ⟨x181, e181, h⟩ := bd h
        have hi := (j_X11_readWho e181 (rch_sub c_a0 r_a0 (by decide) hp)).trans hi
        have hp := (p_X11_readWho e181).trans hp
        rcases ite_e h with ⟨_, h⟩ | ⟨_, h⟩
        · exact (j_X11_readByPerson_J238 h ).trans hi
        · obtain ⟨x189, e189, h⟩ := bd h
          have r_x189 := rch_f r_a0 e189 hp
          obtain ⟨x200, e200, h⟩ := bd h
          have hi := (j_X11_readInto e200 (rch_sub c_a0 r_a0 (by decide) hp)).trans hi
          have hp := (p_X11_readInto e200).trans hp
          rcases ite_e h with ⟨_, h⟩ | ⟨_, h⟩
          · exact (j_X11_readByPerson_J238 h ).trans hi
          · obtain ⟨x208, e208, h⟩ := bd h
            have r_x208 := rch_f r_a0 e208 hp
            obtain ⟨x217, e217, h⟩ := bd h
            have r_x217 := rch_f r_a0 e217 hp
            obtain ⟨x225, e225, h⟩ := bd h
            obtain ⟨x228, e228, h⟩ := bd h
            have hi := (j_X11_readInto e228 (rch_sub c_a0 r_a0 (by decide) hp)).trans hi
            have hp := (p_X11_readInto e228).trans hp
            rcases ite_e h with ⟨_, h⟩ | ⟨_, h⟩
            · exact (j_X11_readByPerson_J238 h ).trans hi
            · exact (j_X11_readByPerson_J239 h ).trans hi
theorem j_X11_readByPerson_J20 {a0 : Nat} {l1 : Int32} {k0 : Int32} {μ : Mm} {x : (Int32 × Mm)} {q : Nat} (h : f_X11_readByPerson_J20 a0 l1 k0 μ = some x) (c_a0 : ∀ p ∈ ([[]] : List (List Nat)), ¬ rch (mm_P μ) a0 p q) : mm_L ((fun (q : (Int32 × Mm)) => q.2) x) q = mm_L μ q := by
  have hi : mm_L μ q = mm_L μ q := rfl
  have hp : mm_P μ = mm_P μ := rfl
  have r_a0 : rch (mm_P μ) a0 [] a0 := rfl
  rcases ite_e h with ⟨_, h⟩ | ⟨_, h⟩
  · exact (j_X11_readByPerson_J43 h (rch_sub c_a0 r_a0 (by decide) hp)).trans hi
  · rcases ite_e h with ⟨_, h⟩ | ⟨_, h⟩
    · exact (j_X11_readByPerson_J43 h (rch_sub c_a0 r_a0 (by decide) hp)).trans hi
    · exact (j_X11_readByPerson_J43 h (rch_sub c_a0 r_a0 (by decide) hp)).trans hi
theorem j_X11_readByPerson {a0 : Nat} {l1 : Int32} {μ : Mm} {x : (Int32 × Mm)} {q : Nat} (h : f_X11_readByPerson a0 l1 μ = some x) (c_a0 : ∀ p ∈ ([[]] : List (List Nat)), ¬ rch (mm_P μ) a0 p q) : mm_L ((fun (q : (Int32 × Mm)) => q.2) x) q = mm_L μ q := by
  have hi : mm_L μ q = mm_L μ q := rfl
  have hp : mm_P μ = mm_P μ := rfl
  have r_a0 : rch (mm_P μ) a0 [] a0 := rfl
  obtain ⟨_, h⟩ := ite_p h
  rcases ite_e h with ⟨_, h⟩ | ⟨_, h⟩
  · exact (j_X11_readByPerson_J20 h (rch_sub c_a0 r_a0 (by decide) hp)).trans hi
  · rcases ite_e h with ⟨_, h⟩ | ⟨_, h⟩
    · exact (j_X11_readByPerson_J20 h (rch_sub c_a0 r_a0 (by decide) hp)).trans hi
    · exact (j_X11_readByPerson_J20 h (rch_sub c_a0 r_a0 (by decide) hp)).trans hi
theorem j_X11_readDreams_J59 {a0 : Nat} {μ : Mm} {x : (Int32 × Mm)} {q : Nat} (h : f_X11_readDreams_J59 a0 μ = some x)  : mm_L ((fun (q : (Int32 × Mm)) => q.2) x) q = mm_L μ q := by
  have hi : mm_L μ q = mm_L μ q := rfl
  have hp : mm_P μ = mm_P μ := rfl
  have r_a0 : rch (mm_P μ) a0 [] a0 := rfl
  obtain ⟨x61, e61, h⟩ := bd h
  have hi := (j_X11_fails e61 ).trans hi
  have hp := (p_X11_fails e61).trans hp
  obtain ⟨_, h⟩ := ite_p h
  have h := Option.some.inj h
  subst h
  exact hi
theorem j_X11_readDreams_J106 {a0 : Nat} {μ : Mm} {x : (Int32 × Mm)} {q : Nat} (h : f_X11_readDreams_J106 a0 μ = some x)  : mm_L ((fun (q : (Int32 × Mm)) => q.2) x) q = mm_L μ q := by
  have hi : mm_L μ q = mm_L μ q := rfl
  have hp : mm_P μ = mm_P μ := rfl
  have r_a0 : rch (mm_P μ) a0 [] a0 := rfl
  obtain ⟨x108, e108, h⟩ := bd h
  have hi := (j_X11_fails e108 ).trans hi
  have hp := (p_X11_fails e108).trans hp
  obtain ⟨_, h⟩ := ite_p h
  have h := Option.some.inj h
  subst h
  exact hi
theorem j_X11_readDreams_J125 {a0 : Nat} {μ : Mm} {x : (Int32 × Mm)} {q : Nat} (h : f_X11_readDreams_J125 a0 μ = some x)  : mm_L ((fun (q : (Int32 × Mm)) => q.2) x) q = mm_L μ q := by
  have hi : mm_L μ q = mm_L μ q := rfl
  have hp : mm_P μ = mm_P μ := rfl
  have r_a0 : rch (mm_P μ) a0 [] a0 := rfl
  obtain ⟨x127, e127, h⟩ := bd h
  have hi := (j_X11_fails e127 ).trans hi
  have hp := (p_X11_fails e127).trans hp
  obtain ⟨_, h⟩ := ite_p h
  have h := Option.some.inj h
  subst h
  exact hi
theorem j_X11_readDreams_J112 {a0 : Nat} {l1 : Int32} {l2 : Int32} {μ : Mm} {x : (Int32 × Mm)} {q : Nat} (h : f_X11_readDreams_J112 a0 l1 l2 μ = some x) (c_a0 : ∀ p ∈ ([[]] : List (List Nat)), ¬ rch (mm_P μ) a0 p q) : mm_L ((fun (q : (Int32 × Mm)) => q.2) x) q = mm_L μ q := by
  have hi : mm_L μ q = mm_L μ q := rfl
  have hp : mm_P μ = mm_P μ := rfl
  have r_a0 : rch (mm_P μ) a0 [] a0 := rfl
  rcases ite_e h with ⟨_, h⟩ | ⟨_, h⟩
  · exact (j_X11_readDreams_J125 h ).trans hi
  · obtain ⟨x119, e119, h⟩ := bd h
    rcases ite_e h with ⟨_, h⟩ | ⟨_, h⟩
    · obtain ⟨x132, e132, h⟩ := bd h
      have r_x132 := rch_f r_a0 e132 hp
      obtain ⟨μ142, e142, h⟩ := bd h
      have hi := (kj_paI e142).trans hi
      have hp := (kp_paI e142).trans hp
      obtain ⟨x144, e144, h⟩ := bd h
      have hi := (j_X11_scan e144 (rch_sub c_a0 r_a0 (by decide) hp)).trans hi
      have hp := (p_X11_scan e144).trans hp
      have h := Option.some.inj h
      subst h
      exact hi
    · exact (j_X11_readDreams_J125 h ).trans hi
theorem j_X11_readDreams_J46 {a0 : Nat} {l1 : Int32} {μ : Mm} {x : (Int32 × Mm)} {q : Nat} (h : f_X11_readDreams_J46 a0 l1 μ = some x) (c_a0 : ∀ p ∈ ([[]] : List (List Nat)), ¬ rch (mm_P μ) a0 p q) : mm_L ((fun (q : (Int32 × Mm)) => q.2) x) q = mm_L μ q := by
  have hi : mm_L μ q = mm_L μ q := rfl
  have hp : mm_P μ = mm_P μ := rfl
  have r_a0 : rch (mm_P μ) a0 [] a0 := rfl
  rcases ite_e h with ⟨_, h⟩ | ⟨_, h⟩
  · exact (j_X11_readDreams_J59 h ).trans hi
  · obtain ⟨x53, e53, h⟩ := bd h
    rcases ite_e h with ⟨_, h⟩ | ⟨_, h⟩
    · obtain ⟨x66, e66, h⟩ := bd h
      have hi := (j_X11_scan e66 (rch_sub c_a0 r_a0 (by decide) hp)).trans hi
      have hp := (p_X11_scan e66).trans hp
      obtain ⟨x70, e70, h⟩ := bd h
      rcases ite_e h with ⟨_, h⟩ | ⟨_, h⟩
      · obtain ⟨x84, e84, h⟩ := bd h
        rcases ite_e h with ⟨_, h⟩ | ⟨_, h⟩
        · exact (j_X11_readDreams_J106 h ).trans hi
        · rcases ite_e h with ⟨_, h⟩ | ⟨_, h⟩
          · exact (j_X11_readDreams_J112 h (rch_sub c_a0 r_a0 (by decide) hp)).trans hi
          · obtain ⟨x100, e100, h⟩ := bd h
            rcases ite_e h with ⟨_, h⟩ | ⟨_, h⟩
            · exact (j_X11_readDreams_J112 h (rch_sub c_a0 r_a0 (by decide) hp)).trans hi
            · exact (j_X11_readDreams_J106 h ).trans hi
      · obtain ⟨x79, e79, h⟩ := bd h
        have hi := (j_X11_fails e79 ).trans hi
        have hp := (p_X11_fails e79).trans hp
        obtain ⟨_, h⟩ := ite_p h
        have h := Option.some.inj h
        subst h
        exact hi
    · exact (j_X11_readDreams_J59 h ).trans hi
theorem j_X11_readDreams {a0 : Nat} {μ : Mm} {x : (Int32 × Mm)} {q : Nat} (h : f_X11_readDreams a0 μ = some x) (c_a0 : ∀ p ∈ ([[]] : List (List Nat)), ¬ rch (mm_P μ) a0 p q) : mm_L ((fun (q : (Int32 × Mm)) => q.2) x) q = mm_L μ q := by
  have hi : mm_L μ q = mm_L μ q := rfl
  have hp : mm_P μ = mm_P μ := rfl
  have r_a0 : rch (mm_P μ) a0 [] a0 := rfl
  obtain ⟨_, h⟩ := ite_p h
  obtain ⟨x1, e1, h⟩ := bd h
  have hi := (j_X11_scan e1 (rch_sub c_a0 r_a0 (by decide) hp)).trans hi
  have hp := (p_X11_scan e1).trans hp
  obtain ⟨x5, e5, h⟩ := bd h
  rcases ite_e h with ⟨_, h⟩ | ⟨_, h⟩
  · obtain ⟨x19, e19, h⟩ := bd h
    rcases ite_e h with ⟨_, h⟩ | ⟨_, h⟩
    · exact (j_X11_readDreams_J46 h (rch_sub c_a0 r_a0 (by decide) hp)).trans hi
    · obtain ⟨x29, e29, h⟩ := bd h
      have r_x29 := rch_f r_a0 e29 hp
      obtain ⟨x36, e36, h⟩ := bd h
      rcases ite_e h with ⟨_, h⟩ | ⟨_, h⟩
      · exact (j_X11_readDreams_J46 h (rch_sub c_a0 r_a0 (by decide) hp)).trans hi
      · obtain ⟨x42, e42, h⟩ := bd h
        have hi := (j_X11_fails e42 ).trans hi
        have hp := (p_X11_fails e42).trans hp
        obtain ⟨_, h⟩ := ite_p h
        have h := Option.some.inj h
        subst h
        exact hi
  · obtain ⟨x14, e14, h⟩ := bd h
    have hi := (j_X11_fails e14 ).trans hi
    have hp := (p_X11_fails e14).trans hp
    obtain ⟨_, h⟩ := ite_p h
    have h := Option.some.inj h
    subst h
    exact hi
theorem j_X11_readPerson_J100 {a0 : Nat} {μ : Mm} {x : (Int32 × Mm)} {q : Nat} (h : f_X11_readPerson_J100 a0 μ = some x)  : mm_L ((fun (q : (Int32 × Mm)) => q.2) x) q = mm_L μ q := by
  have hi : mm_L μ q = mm_L μ q := rfl
  have hp : mm_P μ = mm_P μ := rfl
  have r_a0 : rch (mm_P μ) a0 [] a0 := rfl
  obtain ⟨x101, e101, h⟩ := bd h
  have r_x101 := rch_f r_a0 e101 hp
  obtain ⟨x107, e107, h⟩ := bd h
  obtain ⟨μ110, e110, h⟩ := bd h
  have hi := (kj_paI e110).trans hi
  have hp := (kp_paI e110).trans hp
  have h := Option.some.inj h
  subst h
  exact hi
theorem j_X11_readPerson {a0 : Nat} {μ : Mm} {x : (Int32 × Mm)} {q : Nat} (h : f_X11_readPerson a0 μ = some x) (c_a0 : ∀ p ∈ ([[], [13]] : List (List Nat)), ¬ rch (mm_P μ) a0 p q) : mm_L ((fun (q : (Int32 × Mm)) => q.2) x) q = mm_L μ q := by
  have hi : mm_L μ q = mm_L μ q := rfl
  have hp : mm_P μ = mm_P μ := rfl
  have r_a0 : rch (mm_P μ) a0 [] a0 := rfl
  obtain ⟨_, h⟩ := ite_p h
  obtain ⟨x1, e1, h⟩ := bd h
  have r_x1 := rch_f r_a0 e1 hp
  obtain ⟨x6, e6, h⟩ := bd h
  rcases ite_e h with ⟨_, h⟩ | ⟨_, h⟩
  · obtain ⟨x16, e16, h⟩ := bd h
    have hi := (j_X11_fails e16 ).trans hi
    have hp := (p_X11_fails e16).trans hp
    obtain ⟨_, h⟩ := ite_p h
    have h := Option.some.inj h
    subst h
    exact hi
  · obtain ⟨x21, e21, h⟩ := bd h
    have hi := (j_X11_scan e21 (rch_sub c_a0 r_a0 (by decide) hp)).trans hi
    have hp := (p_X11_scan e21).trans hp
    obtain ⟨x25, e25, h⟩ := bd h
    rcases ite_e h with ⟨_, h⟩ | ⟨_, h⟩
    · obtain ⟨x39, e39, h⟩ := bd h
      rcases ite_e h with ⟨_, h⟩ | ⟨_, h⟩
      · obtain ⟨x53, e53, h⟩ := bd h
        have r_x53 := rch_f r_a0 e53 hp
        obtain ⟨x58, e58, h⟩ := bd h
        obtain ⟨μ61, e61, h⟩ := bd h
        have hi := (kj_paL e61 (rch_ne c_a0 (by decide) r_x53)).trans hi
        have hp := (kp_paL e61).trans hp
        obtain ⟨x63, e63, h⟩ := bd h
        have hi := (j_X11_scan e63 (rch_sub c_a0 r_a0 (by decide) hp)).trans hi
        have hp := (p_X11_scan e63).trans hp
        obtain ⟨x67, e67, h⟩ := bd h
        rcases ite_e h with ⟨_, h⟩ | ⟨_, h⟩
        · obtain ⟨x75, e75, h⟩ := bd h
          rcases ite_e h with ⟨_, h⟩ | ⟨_, h⟩
          · obtain ⟨x84, e84, h⟩ := bd h
            have r_x84 := rch_f r_a0 e84 hp
            obtain ⟨x90, e90, h⟩ := bd h
            obtain ⟨μ95, e95, h⟩ := bd h
            have hi := (kj_paI e95).trans hi
            have hp := (kp_paI e95).trans hp
            obtain ⟨x97, e97, h⟩ := bd h
            have hi := (j_X11_scan e97 (rch_sub c_a0 r_a0 (by decide) hp)).trans hi
            have hp := (p_X11_scan e97).trans hp
            exact (j_X11_readPerson_J100 h ).trans hi
          · exact (j_X11_readPerson_J100 h ).trans hi
        · exact (j_X11_readPerson_J100 h ).trans hi
      · obtain ⟨x48, e48, h⟩ := bd h
        have hi := (j_X11_fails e48 ).trans hi
        have hp := (p_X11_fails e48).trans hp
        obtain ⟨_, h⟩ := ite_p h
        have h := Option.some.inj h
        subst h
        exact hi
    · obtain ⟨x34, e34, h⟩ := bd h
      have hi := (j_X11_fails e34 ).trans hi
      have hp := (p_X11_fails e34).trans hp
      obtain ⟨_, h⟩ := ite_p h
      have h := Option.some.inj h
      subst h
      exact hi
theorem j_X11_readTalk {a0 : Nat} {μ : Mm} {x : (Int32 × Mm)} {q : Nat} (h : f_X11_readTalk a0 μ = some x) (c_a0 : ∀ p ∈ ([[]] : List (List Nat)), ¬ rch (mm_P μ) a0 p q) : mm_L ((fun (q : (Int32 × Mm)) => q.2) x) q = mm_L μ q := by
  have hi : mm_L μ q = mm_L μ q := rfl
  have hp : mm_P μ = mm_P μ := rfl
  have r_a0 : rch (mm_P μ) a0 [] a0 := rfl
  obtain ⟨_, h⟩ := ite_p h
  obtain ⟨x1, e1, h⟩ := bd h
  have r_x1 := rch_f r_a0 e1 hp
  obtain ⟨x6, e6, h⟩ := bd h
  rcases ite_e h with ⟨_, h⟩ | ⟨_, h⟩
  · obtain ⟨x16, e16, h⟩ := bd h
    have hi := (j_X11_fails e16 ).trans hi
    have hp := (p_X11_fails e16).trans hp
    obtain ⟨_, h⟩ := ite_p h
    have h := Option.some.inj h
    subst h
    exact hi
  · obtain ⟨x21, e21, h⟩ := bd h
    have hi := (j_X11_scan e21 (rch_sub c_a0 r_a0 (by decide) hp)).trans hi
    have hp := (p_X11_scan e21).trans hp
    obtain ⟨x26, e26, h⟩ := bd h
    have r_x26 := rch_f r_a0 e26 hp
    obtain ⟨x33, e33, h⟩ := bd h
    have hi := (j_X11_readWho e33 (rch_sub c_a0 r_a0 (by decide) hp)).trans hi
    have hp := (p_X11_readWho e33).trans hp
    rcases ite_e h with ⟨_, h⟩ | ⟨_, h⟩
    · have h := Option.some.inj h
      subst h
      exact hi
    · obtain ⟨x42, e42, h⟩ := bd h
      rcases ite_e h with ⟨_, h⟩ | ⟨_, h⟩
      · obtain ⟨x56, e56, h⟩ := bd h
        obtain ⟨x60, e60, h⟩ := bd h
        have r_x60 := rch_f r_a0 e60 hp
        obtain ⟨x67, e67, h⟩ := bd h
        rcases ite_e h with ⟨_, h⟩ | ⟨_, h⟩
        · obtain ⟨x73, e73, h⟩ := bd h
          have hi := (j_X11_fails e73 ).trans hi
          have hp := (p_X11_fails e73).trans hp
          obtain ⟨_, h⟩ := ite_p h
          have h := Option.some.inj h
          subst h
          exact hi
        · obtain ⟨x79, e79, h⟩ := bd h
          have r_x79 := rch_f r_a0 e79 hp
          obtain ⟨x86, e86, h⟩ := bd h
          have hi := (j_X11_readWho e86 (rch_sub c_a0 r_a0 (by decide) hp)).trans hi
          have hp := (p_X11_readWho e86).trans hp
          rcases ite_e h with ⟨_, h⟩ | ⟨_, h⟩
          · have h := Option.some.inj h
            subst h
            exact hi
          · obtain ⟨x94, e94, h⟩ := bd h
            have r_x94 := rch_f r_a0 e94 hp
            obtain ⟨x104, e104, h⟩ := bd h
            have hi := (j_X11_readInto e104 (rch_sub c_a0 r_a0 (by decide) hp)).trans hi
            have hp := (p_X11_readInto e104).trans hp
            rcases ite_e h with ⟨_, h⟩ | ⟨_, h⟩
            · have h := Option.some.inj h
              subst h
              exact hi
            · obtain ⟨x113, e113, h⟩ := bd h
              have r_x113 := rch_f r_a0 e113 hp
              obtain ⟨x119, e119, h⟩ := bd h
              obtain ⟨μ122, e122, h⟩ := bd h
              have hi := (kj_paI e122).trans hi
              have hp := (kp_paI e122).trans hp
              have h := Option.some.inj h
              subst h
              exact hi
      · obtain ⟨x51, e51, h⟩ := bd h
        have hi := (j_X11_fails e51 ).trans hi
        have hp := (p_X11_fails e51).trans hp
        obtain ⟨_, h⟩ := ite_p h
        have h := Option.some.inj h
        subst h
        exact hi
theorem j_X11_readTrade_J49 {a0 : Nat} {l1 : Int32} {μ : Mm} {x : (Int32 × Mm)} {q : Nat} (h : f_X11_readTrade_J49 a0 l1 μ = some x) (c_a0 : ∀ p ∈ ([[]] : List (List Nat)), ¬ rch (mm_P μ) a0 p q) : mm_L ((fun (q : (Int32 × Mm)) => q.2) x) q = mm_L μ q := by
  have hi : mm_L μ q = mm_L μ q := rfl
  have hp : mm_P μ = mm_P μ := rfl
  have r_a0 : rch (mm_P μ) a0 [] a0 := rfl
  rcases ite_e h with ⟨_, h⟩ | ⟨_, h⟩
  · obtain ⟨x56, e56, h⟩ := bd h
    have hi := (j_X11_fails e56 ).trans hi
    have hp := (p_X11_fails e56).trans hp
    obtain ⟨_, h⟩ := ite_p h
    have h := Option.some.inj h
    subst h
    exact hi
  · obtain ⟨x61, e61, h⟩ := bd h
    have r_x61 := rch_f r_a0 e61 hp
    obtain ⟨x67, e67, h⟩ := bd h
    obtain ⟨μ72, e72, h⟩ := bd h
    have hi := (kj_paI e72).trans hi
    have hp := (kp_paI e72).trans hp
    obtain ⟨x74, e74, h⟩ := bd h
    have hi := (j_X11_scan e74 (rch_sub c_a0 r_a0 (by decide) hp)).trans hi
    have hp := (p_X11_scan e74).trans hp
    obtain ⟨x79, e79, h⟩ := bd h
    have r_x79 := rch_f r_a0 e79 hp
    obtain ⟨x89, e89, h⟩ := bd h
    have hi := (j_X11_readInto e89 (rch_sub c_a0 r_a0 (by decide) hp)).trans hi
    have hp := (p_X11_readInto e89).trans hp
    obtain ⟨_, h⟩ := ite_p h
    have h := Option.some.inj h
    subst h
    exact hi
theorem j_X11_readTrade {a0 : Nat} {μ : Mm} {x : (Int32 × Mm)} {q : Nat} (h : f_X11_readTrade a0 μ = some x) (c_a0 : ∀ p ∈ ([[]] : List (List Nat)), ¬ rch (mm_P μ) a0 p q) : mm_L ((fun (q : (Int32 × Mm)) => q.2) x) q = mm_L μ q := by
  have hi : mm_L μ q = mm_L μ q := rfl
  have hp : mm_P μ = mm_P μ := rfl
  have r_a0 : rch (mm_P μ) a0 [] a0 := rfl
  obtain ⟨_, h⟩ := ite_p h
  obtain ⟨x1, e1, h⟩ := bd h
  have hi := (j_X11_scan e1 (rch_sub c_a0 r_a0 (by decide) hp)).trans hi
  have hp := (p_X11_scan e1).trans hp
  obtain ⟨x5, e5, h⟩ := bd h
  rcases ite_e h with ⟨_, h⟩ | ⟨_, h⟩
  · obtain ⟨x19, e19, h⟩ := bd h
    rcases ite_e h with ⟨_, h⟩ | ⟨_, h⟩
    · exact (j_X11_readTrade_J49 h (rch_sub c_a0 r_a0 (by decide) hp)).trans hi
    · obtain ⟨x29, e29, h⟩ := bd h
      have r_x29 := rch_f r_a0 e29 hp
      obtain ⟨x34, e34, h⟩ := bd h
      rcases ite_e h with ⟨_, h⟩ | ⟨_, h⟩
      · obtain ⟨x45, e45, h⟩ := bd h
        have hi := (j_X11_fails e45 ).trans hi
        have hp := (p_X11_fails e45).trans hp
        obtain ⟨_, h⟩ := ite_p h
        have h := Option.some.inj h
        subst h
        exact hi
      · exact (j_X11_readTrade_J49 h (rch_sub c_a0 r_a0 (by decide) hp)).trans hi
  · obtain ⟨x14, e14, h⟩ := bd h
    have hi := (j_X11_fails e14 ).trans hi
    have hp := (p_X11_fails e14).trans hp
    obtain ⟨_, h⟩ := ite_p h
    have h := Option.some.inj h
    subst h
    exact hi
theorem j_X11_readWish_J96 {a0 : Nat} {k0 : Nat} {k1 : Int32} {k2 : Int32} {μ : Mm} {x : (Int32 × Mm)} {q : Nat} (h : f_X11_readWish_J96 a0 k0 k1 k2 μ = some x)  : mm_L ((fun (q : (Int32 × Mm)) => q.2) x) q = mm_L μ q := by
  have hi : mm_L μ q = mm_L μ q := rfl
  have hp : mm_P μ = mm_P μ := rfl
  have r_a0 : rch (mm_P μ) a0 [] a0 := rfl
  have r_k0 : rch (mm_P μ) k0 [] k0 := rfl
  obtain ⟨μ96, e96, h⟩ := bd h
  have hi := (kj_paI e96).trans hi
  have hp := (kp_paI e96).trans hp
  obtain ⟨x98, e98, h⟩ := bd h
  have r_x98 := rch_f r_a0 e98 hp
  obtain ⟨x104, e104, h⟩ := bd h
  obtain ⟨μ107, e107, h⟩ := bd h
  have hi := (kj_paI e107).trans hi
  have hp := (kp_paI e107).trans hp
  have h := Option.some.inj h
  subst h
  exact hi
theorem j_X11_readWish {a0 : Nat} {l1 : Int32} {μ : Mm} {x : (Int32 × Mm)} {q : Nat} (h : f_X11_readWish a0 l1 μ = some x) (c_a0 : ∀ p ∈ ([[]] : List (List Nat)), ¬ rch (mm_P μ) a0 p q) : mm_L ((fun (q : (Int32 × Mm)) => q.2) x) q = mm_L μ q := by
  have hi : mm_L μ q = mm_L μ q := rfl
  have hp : mm_P μ = mm_P μ := rfl
  have r_a0 : rch (mm_P μ) a0 [] a0 := rfl
  obtain ⟨_, h⟩ := ite_p h
  obtain ⟨x1, e1, h⟩ := bd h
  have r_x1 := rch_f r_a0 e1 hp
  obtain ⟨x6, e6, h⟩ := bd h
  rcases ite_e h with ⟨_, h⟩ | ⟨_, h⟩
  · obtain ⟨x16, e16, h⟩ := bd h
    have hi := (j_X11_fails e16 ).trans hi
    have hp := (p_X11_fails e16).trans hp
    obtain ⟨_, h⟩ := ite_p h
    have h := Option.some.inj h
    subst h
    exact hi
  · obtain ⟨x21, e21, h⟩ := bd h
    have hi := (j_X11_scan e21 (rch_sub c_a0 r_a0 (by decide) hp)).trans hi
    have hp := (p_X11_scan e21).trans hp
    obtain ⟨x26, e26, h⟩ := bd h
    have r_x26 := rch_f r_a0 e26 hp
    obtain ⟨x33, e33, h⟩ := bd h
    have hi := (j_X11_readWho e33 (rch_sub c_a0 r_a0 (by decide) hp)).trans hi
    have hp := (p_X11_readWho e33).trans hp
    rcases ite_e h with ⟨_, h⟩ | ⟨_, h⟩
    · have h := Option.some.inj h
      subst h
      exact hi
    · obtain ⟨x41, e41, h⟩ := bd h
      have r_x41 := rch_f r_a0 e41 hp
      obtain ⟨x51, e51, h⟩ := bd h
      have hi := (j_X11_readInto e51 (rch_sub c_a0 r_a0 (by decide) hp)).trans hi
      have hp := (p_X11_readInto e51).trans hp
      rcases ite_e h with ⟨_, h⟩ | ⟨_, h⟩
      · have h := Option.some.inj h
        subst h
        exact hi
      · obtain ⟨x59, e59, h⟩ := bd h
        have r_x59 := rch_f r_a0 e59 hp
        obtain ⟨x69, e69, h⟩ := bd h
        have hi := (j_X11_readInto e69 (rch_sub c_a0 r_a0 (by decide) hp)).trans hi
        have hp := (p_X11_readInto e69).trans hp
        rcases ite_e h with ⟨_, h⟩ | ⟨_, h⟩
        · have h := Option.some.inj h
          subst h
          exact hi
        · obtain ⟨x78, e78, h⟩ := bd h
          have r_x78 := rch_f r_a0 e78 hp
          rcases ite_e h with ⟨_, h⟩ | ⟨_, h⟩
          · exact (j_X11_readWish_J96 h ).trans hi
          · exact (j_X11_readWish_J96 h ).trans hi
theorem j_X11_readClause_J230 {a0 : Nat} {k0 : Nat} {k1 : Int32} {k2 : Int32} {μ : Mm} {x : (Int32 × Mm)} {q : Nat} (h : f_X11_readClause_J230 a0 k0 k1 k2 μ = some x)  : mm_L ((fun (q : (Int32 × Mm)) => q.2) x) q = mm_L μ q := by
  have hi : mm_L μ q = mm_L μ q := rfl
  have hp : mm_P μ = mm_P μ := rfl
  have r_a0 : rch (mm_P μ) a0 [] a0 := rfl
  have r_k0 : rch (mm_P μ) k0 [] k0 := rfl
  obtain ⟨x232, e232, h⟩ := bd h
  obtain ⟨μ235, e235, h⟩ := bd h
  have hi := (kj_paI e235).trans hi
  have hp := (kp_paI e235).trans hp
  have h := Option.some.inj h
  subst h
  exact hi
theorem j_X11_readClause_J202 {a0 : Nat} {l1 : Int32} {μ : Mm} {x : (Int32 × Mm)} {q : Nat} (h : f_X11_readClause_J202 a0 l1 μ = some x)  : mm_L ((fun (q : (Int32 × Mm)) => q.2) x) q = mm_L μ q := by
  have hi : mm_L μ q = mm_L μ q := rfl
  have hp : mm_P μ = mm_P μ := rfl
  have r_a0 : rch (mm_P μ) a0 [] a0 := rfl
  obtain ⟨x203, e203, h⟩ := bd h
  have r_x203 := rch_f r_a0 e203 hp
  rcases ite_e h with ⟨_, h⟩ | ⟨_, h⟩
  · exact (j_X11_readClause_J230 h ).trans hi
  · rcases ite_e h with ⟨_, h⟩ | ⟨_, h⟩
    · exact (j_X11_readClause_J230 h ).trans hi
    · exact (j_X11_readClause_J230 h ).trans hi
theorem j_X11_readClause_J136 {a0 : Nat} {l1 : Int32} {μ : Mm} {x : (Int32 × Mm)} {q : Nat} (h : f_X11_readClause_J136 a0 l1 μ = some x) (c_a0 : ∀ p ∈ ([[]] : List (List Nat)), ¬ rch (mm_P μ) a0 p q) : mm_L ((fun (q : (Int32 × Mm)) => q.2) x) q = mm_L μ q := by
  have hi : mm_L μ q = mm_L μ q := rfl
  have hp : mm_P μ = mm_P μ := rfl
  have r_a0 : rch (mm_P μ) a0 [] a0 := rfl
  obtain ⟨x137, e137, h⟩ := bd h
  rcases ite_e h with ⟨_, h⟩ | ⟨_, h⟩
  · obtain ⟨x150, e150, h⟩ := bd h
    have hi := (j_X11_fails e150 ).trans hi
    have hp := (p_X11_fails e150).trans hp
    obtain ⟨_, h⟩ := ite_p h
    have h := Option.some.inj h
    subst h
    exact hi
  · obtain ⟨x156, e156, h⟩ := bd h
    obtain ⟨μ163, e163, h⟩ := bd h
    have hi := (kj_pfI e163).trans hi
    have hp := (kp_pfI e163).trans hp
    obtain ⟨x167, e167, h⟩ := bd h
    have hi := (j_X11_scan e167 (rch_sub c_a0 r_a0 (by decide) hp)).trans hi
    have hp := (p_X11_scan e167).trans hp
    rcases ite_e h with ⟨_, h⟩ | ⟨_, h⟩
    · obtain ⟨x180, e180, h⟩ := bd h
      have hi := (j_X11_readNumber e180 (rch_sub c_a0 r_a0 (by decide) hp)).trans hi
      have hp := (p_X11_readNumber e180).trans hp
      rcases ite_e h with ⟨_, h⟩ | ⟨_, h⟩
      · have h := Option.some.inj h
        subst h
        exact hi
      · exact (j_X11_readClause_J202 h ).trans hi
    · obtain ⟨x194, e194, h⟩ := bd h
      have hi := (j_X11_readNumber e194 (rch_sub c_a0 r_a0 (by decide) hp)).trans hi
      have hp := (p_X11_readNumber e194).trans hp
      rcases ite_e h with ⟨_, h⟩ | ⟨_, h⟩
      · have h := Option.some.inj h
        subst h
        exact hi
      · exact (j_X11_readClause_J202 h ).trans hi
theorem j_X11_readClause_J16 {a0 : Nat} {k0 : Int32} {μ : Mm} {x : (Int32 × Mm)} {q : Nat} (h : f_X11_readClause_J16 a0 k0 μ = some x) (c_a0 : ∀ p ∈ ([[], [13]] : List (List Nat)), ¬ rch (mm_P μ) a0 p q) : mm_L ((fun (q : (Int32 × Mm)) => q.2) x) q = mm_L μ q := by
  have hi : mm_L μ q = mm_L μ q := rfl
  have hp : mm_P μ = mm_P μ := rfl
  have r_a0 : rch (mm_P μ) a0 [] a0 := rfl
  rcases ite_e h with ⟨_, h⟩ | ⟨_, h⟩
  · obtain ⟨x81, e81, h⟩ := bd h
    have hi := (j_X11_readPerson e81 (rch_sub c_a0 r_a0 (by decide) hp)).trans hi
    have hp := (p_X11_readPerson e81).trans hp
    obtain ⟨_, h⟩ := ite_p h
    have h := Option.some.inj h
    subst h
    exact hi
  rcases ite_e h with ⟨_, h⟩ | ⟨_, h⟩
  · obtain ⟨x86, e86, h⟩ := bd h
    have hi := (j_X11_readDreams e86 (rch_sub c_a0 r_a0 (by decide) hp)).trans hi
    have hp := (p_X11_readDreams e86).trans hp
    obtain ⟨_, h⟩ := ite_p h
    have h := Option.some.inj h
    subst h
    exact hi
  rcases ite_e h with ⟨_, h⟩ | ⟨_, h⟩
  · obtain ⟨x97, e97, h⟩ := bd h
    have hi := (j_X11_readByPerson e97 (rch_sub c_a0 r_a0 (by decide) hp)).trans hi
    have hp := (p_X11_readByPerson e97).trans hp
    obtain ⟨_, h⟩ := ite_p h
    have h := Option.some.inj h
    subst h
    exact hi
  rcases ite_e h with ⟨_, h⟩ | ⟨_, h⟩
  · obtain ⟨x91, e91, h⟩ := bd h
    have hi := (j_X11_readTalk e91 (rch_sub c_a0 r_a0 (by decide) hp)).trans hi
    have hp := (p_X11_readTalk e91).trans hp
    obtain ⟨_, h⟩ := ite_p h
    have h := Option.some.inj h
    subst h
    exact hi
  rcases ite_e h with ⟨_, h⟩ | ⟨_, h⟩
  · obtain ⟨x97, e97, h⟩ := bd h
    have hi := (j_X11_readByPerson e97 (rch_sub c_a0 r_a0 (by decide) hp)).trans hi
    have hp := (p_X11_readByPerson e97).trans hp
    obtain ⟨_, h⟩ := ite_p h
    have h := Option.some.inj h
    subst h
    exact hi
  rcases ite_e h with ⟨_, h⟩ | ⟨_, h⟩
  · obtain ⟨x97, e97, h⟩ := bd h
    have hi := (j_X11_readByPerson e97 (rch_sub c_a0 r_a0 (by decide) hp)).trans hi
    have hp := (p_X11_readByPerson e97).trans hp
    obtain ⟨_, h⟩ := ite_p h
    have h := Option.some.inj h
    subst h
    exact hi
  rcases ite_e h with ⟨_, h⟩ | ⟨_, h⟩
  · rcases ite_e h with ⟨_, h⟩ | ⟨_, h⟩
    · exact (j_X11_readClause_J136 h (rch_sub c_a0 r_a0 (by decide) hp)).trans hi
    · rcases ite_e h with ⟨_, h⟩ | ⟨_, h⟩
      · exact (j_X11_readClause_J136 h (rch_sub c_a0 r_a0 (by decide) hp)).trans hi
      · rcases ite_e h with ⟨_, h⟩ | ⟨_, h⟩
        · exact (j_X11_readClause_J136 h (rch_sub c_a0 r_a0 (by decide) hp)).trans hi
        · obtain ⟨x132, e132, h⟩ := bd h
          have hi := (j_X11_fails e132 ).trans hi
          have hp := (p_X11_fails e132).trans hp
          obtain ⟨_, h⟩ := ite_p h
          have h := Option.some.inj h
          subst h
          exact hi
  rcases ite_e h with ⟨_, h⟩ | ⟨_, h⟩
  · rcases ite_e h with ⟨_, h⟩ | ⟨_, h⟩
    · exact (j_X11_readClause_J136 h (rch_sub c_a0 r_a0 (by decide) hp)).trans hi
    · rcases ite_e h with ⟨_, h⟩ | ⟨_, h⟩
      · exact (j_X11_readClause_J136 h (rch_sub c_a0 r_a0 (by decide) hp)).trans hi
      · rcases ite_e h with ⟨_, h⟩ | ⟨_, h⟩
        · exact (j_X11_readClause_J136 h (rch_sub c_a0 r_a0 (by decide) hp)).trans hi
        · obtain ⟨x132, e132, h⟩ := bd h
          have hi := (j_X11_fails e132 ).trans hi
          have hp := (p_X11_fails e132).trans hp
          obtain ⟨_, h⟩ := ite_p h
          have h := Option.some.inj h
          subst h
          exact hi
  rcases ite_e h with ⟨_, h⟩ | ⟨_, h⟩
  · rcases ite_e h with ⟨_, h⟩ | ⟨_, h⟩
    · exact (j_X11_readClause_J136 h (rch_sub c_a0 r_a0 (by decide) hp)).trans hi
    · rcases ite_e h with ⟨_, h⟩ | ⟨_, h⟩
      · exact (j_X11_readClause_J136 h (rch_sub c_a0 r_a0 (by decide) hp)).trans hi
      · rcases ite_e h with ⟨_, h⟩ | ⟨_, h⟩
        · exact (j_X11_readClause_J136 h (rch_sub c_a0 r_a0 (by decide) hp)).trans hi
        · obtain ⟨x132, e132, h⟩ := bd h
          have hi := (j_X11_fails e132 ).trans hi
          have hp := (p_X11_fails e132).trans hp
          obtain ⟨_, h⟩ := ite_p h
          have h := Option.some.inj h
          subst h
          exact hi
  rcases ite_e h with ⟨_, h⟩ | ⟨_, h⟩
  · obtain ⟨x103, e103, h⟩ := bd h
    have hi := (j_X11_readWish e103 (rch_sub c_a0 r_a0 (by decide) hp)).trans hi
    have hp := (p_X11_readWish e103).trans hp
    obtain ⟨_, h⟩ := ite_p h
    have h := Option.some.inj h
    subst h
    exact hi
  rcases ite_e h with ⟨_, h⟩ | ⟨_, h⟩
  · obtain ⟨x103, e103, h⟩ := bd h
    have hi := (j_X11_readWish e103 (rch_sub c_a0 r_a0 (by decide) hp)).trans hi
    have hp := (p_X11_readWish e103).trans hp
    obtain ⟨_, h⟩ := ite_p h
    have h := Option.some.inj h
    subst h
    exact hi
  rcases ite_e h with ⟨_, h⟩ | ⟨_, h⟩
  · obtain ⟨x108, e108, h⟩ := bd h
    have hi := (j_X11_readTrade e108 (rch_sub c_a0 r_a0 (by decide) hp)).trans hi
    have hp := (p_X11_readTrade e108).trans hp
    obtain ⟨_, h⟩ := ite_p h
    have h := Option.some.inj h
    subst h
    exact hi
  rcases ite_e h with ⟨_, h⟩ | ⟨_, h⟩
  · exact (j_X11_readClause_J136 h (rch_sub c_a0 r_a0 (by decide) hp)).trans hi
  · rcases ite_e h with ⟨_, h⟩ | ⟨_, h⟩
    · exact (j_X11_readClause_J136 h (rch_sub c_a0 r_a0 (by decide) hp)).trans hi
    · rcases ite_e h with ⟨_, h⟩ | ⟨_, h⟩
      · exact (j_X11_readClause_J136 h (rch_sub c_a0 r_a0 (by decide) hp)).trans hi
      · obtain ⟨x132, e132, h⟩ := bd h
        have hi := (j_X11_fails e132 ).trans hi
        have hp := (p_X11_fails e132).trans hp
        obtain ⟨_, h⟩ := ite_p h
        have h := Option.some.inj h
        subst h
        exact hi
theorem j_X11_readClause {a0 : Nat} {μ : Mm} {x : (Int32 × Mm)} {q : Nat} (h : f_X11_readClause a0 μ = some x) (c_a0 : ∀ p ∈ ([[], [13]] : List (List Nat)), ¬ rch (mm_P μ) a0 p q) : mm_L ((fun (q : (Int32 × Mm)) => q.2) x) q = mm_L μ q := by
  have hi : mm_L μ q = mm_L μ q := rfl
  have hp : mm_P μ = mm_P μ := rfl
  have r_a0 : rch (mm_P μ) a0 [] a0 := rfl
  obtain ⟨_, h⟩ := ite_p h
  obtain ⟨x1, e1, h⟩ := bd h
  rcases ite_e h with ⟨_, h⟩ | ⟨_, h⟩
  · obtain ⟨x9, e9, h⟩ := bd h
    exact (j_X11_readClause_J16 h (rch_sub c_a0 r_a0 (by decide) hp)).trans hi
  · exact (j_X11_readClause_J16 h (rch_sub c_a0 r_a0 (by decide) hp)).trans hi
theorem j_X11_town_J63 {a0 : Nat} {l1 : Int32} {μ : Mm} {x : (Int32 × Mm)} {q : Nat} (h : f_X11_town_J63 a0 l1 μ = some x) (c_a0 : ∀ p ∈ ([[34]] : List (List Nat)), ¬ rch (mm_P μ) a0 p q) : mm_L ((fun (q : (Int32 × Mm)) => q.2) x) q = mm_L μ q := by
  have hi : mm_L μ q = mm_L μ q := rfl
  have hp : mm_P μ = mm_P μ := rfl
  have r_a0 : rch (mm_P μ) a0 [] a0 := rfl
  obtain ⟨x66, e66, h⟩ := bd h
  rcases ite_e h with ⟨_, h⟩ | ⟨_, h⟩
  · obtain ⟨x74, e74, h⟩ := bd h
    have hi := (j_X11_fails e74 ).trans hi
    have hp := (p_X11_fails e74).trans hp
    have h := Option.some.inj h
    subst h
    exact hi
  · obtain ⟨x81, e81, h⟩ := bd h
    have hi := (j_X11_settle e81 (rch_sub c_a0 r_a0 (by decide) hp)).trans hi
    have hp := (p_X11_settle e81).trans hp
    obtain ⟨μ86, e86, h⟩ := bd h
    have hi := (kj_pfI e86).trans hi
    have hp := (kp_pfI e86).trans hp
    have h := Option.some.inj h
    subst h
    exact hi
theorem j_X11_town_J45 {a0 : Nat} {μ : Mm} {x : (Int32 × Mm)} {q : Nat} (h : f_X11_town_J45 a0 μ = some x)  : mm_L ((fun (q : (Int32 × Mm)) => q.2) x) q = mm_L μ q := by
  have hi : mm_L μ q = mm_L μ q := rfl
  have hp : mm_P μ = mm_P μ := rfl
  have r_a0 : rch (mm_P μ) a0 [] a0 := rfl
  obtain ⟨x47, e47, h⟩ := bd h
  have hi := (j_X11_fails e47 ).trans hi
  have hp := (p_X11_fails e47).trans hp
  have h := Option.some.inj h
  subst h
  exact hi
theorem j_X11_town_L20 {a0 : Nat} {s20 : Int32 × Mm} {x : ((Int32 × Mm) ⊕ ((Mm) ⊕ ((Mm) ⊕ (Int32 × Mm))))} {q : Nat} (h : f_X11_town_L20 a0 s20 = some x) (c_a0 : ∀ p ∈ ([[], [13]] : List (List Nat)), ¬ rch (mm_P ((fun (q : Int32 × Mm) => q.2) s20)) a0 p q) : mm_L (sm (fun (q : Int32 × Mm) => q.2) (sm (fun (q : Mm) => q) (sm (fun (q : Mm) => q) (fun (q : Int32 × Mm) => q.2))) x) q = mm_L ((fun (q : Int32 × Mm) => q.2) s20) q := by
  have hi : mm_L ((fun (q : Int32 × Mm) => q.2) s20) q = mm_L ((fun (q : Int32 × Mm) => q.2) s20) q := rfl
  have hp : mm_P ((fun (q : Int32 × Mm) => q.2) s20) = mm_P ((fun (q : Int32 × Mm) => q.2) s20) := rfl
  have r_a0 : rch (mm_P ((fun (q : Int32 × Mm) => q.2) s20)) a0 [] a0 := rfl
  obtain ⟨x21, e21, h⟩ := bd h
  rcases ite_e h with ⟨_, h⟩ | ⟨_, h⟩
  · have h := Option.some.inj h
    subst h
    exact hi
  · obtain ⟨x29, e29, h⟩ := bd h
    have hi := (j_X11_readClause e29 (rch_sub c_a0 r_a0 (by decide) hp)).trans hi
    have hp := (p_X11_readClause e29).trans hp
    rcases ite_e h with ⟨_, h⟩ | ⟨_, h⟩
    · have h := Option.some.inj h
      subst h
      exact hi
    · obtain ⟨x38, e38, h⟩ := bd h
      rcases ite_e h with ⟨_, h⟩ | ⟨_, h⟩
      · obtain ⟨x54, e54, h⟩ := bd h
        have hi := (j_X11_scan e54 (rch_sub c_a0 r_a0 (by decide) hp)).trans hi
        have hp := (p_X11_scan e54).trans hp
        obtain ⟨v57, e57, h⟩ := bd h
        have h := Option.some.inj h
        subst h
        exact hi
      · have h := Option.some.inj h
        subst h
        exact hi
theorem j_X11_town_W20 {a0 : Nat} {s20 : Int32 × Mm} {b : (Mm) ⊕ ((Mm) ⊕ (Int32 × Mm))} {q : Nat} (h : whl (f_X11_town_L20 a0) s20 = some b) (c_a0 : ∀ p ∈ ([[], [13]] : List (List Nat)), ¬ rch (mm_P ((fun (q : Int32 × Mm) => q.2) s20)) a0 p q) : mm_L ((sm (fun (q : Mm) => q) (sm (fun (q : Mm) => q) (fun (q : Int32 × Mm) => q.2))) b) q = mm_L ((fun (q : Int32 × Mm) => q.2) s20) q := by
  have key := whl_inv (P := fun s' => mm_L ((fun (q : Int32 × Mm) => q.2) s') q = mm_L ((fun (q : Int32 × Mm) => q.2) s20) q ∧ mm_P ((fun (q : Int32 × Mm) => q.2) s') = mm_P ((fun (q : Int32 × Mm) => q.2) s20)) (Q := fun b' => mm_L ((sm (fun (q : Mm) => q) (sm (fun (q : Mm) => q) (fun (q : Int32 × Mm) => q.2))) b') q = mm_L ((fun (q : Int32 × Mm) => q.2) s20) q) (fun s' x hs1 hx => ?_) ⟨rfl, rfl⟩ h
  · exact key
  · obtain ⟨h1, hP⟩ := hs1
    have k1 := (j_X11_town_L20 hx (fun p hp hr => c_a0 p hp (by rw [← hP]; exact hr))).trans h1
    have k2 := (p_X11_town_L20 hx).trans hP
    cases x with
    | inl z => exact ⟨k1, k2⟩
    | inr z => exact k1
theorem j_X11_town {a0 : Nat} {μ : Mm} {x : (Int32 × Mm)} {q : Nat} (h : f_X11_town a0 μ = some x) (c_a0 : ∀ p ∈ ([[], [13], [34]] : List (List Nat)), ¬ rch (mm_P μ) a0 p q) : mm_L ((fun (q : (Int32 × Mm)) => q.2) x) q = mm_L μ q := by
  have hi : mm_L μ q = mm_L μ q := rfl
  have hp : mm_P μ = mm_P μ := rfl
  have r_a0 : rch (mm_P μ) a0 [] a0 := rfl
  obtain ⟨_, h⟩ := ite_p h
  obtain ⟨x1, e1, h⟩ := bd h
  have hi := (j_X11_takeTape e1 (rch_sub c_a0 r_a0 (by decide) hp)).trans hi
  have hp := (p_X11_takeTape e1).trans hp
  obtain ⟨μ6, e6, h⟩ := bd h
  have hi := (kj_pfI e6).trans hi
  have hp := (kp_pfI e6).trans hp
  obtain ⟨μ11, e11, h⟩ := bd h
  have hi := (kj_pfI e11).trans hi
  have hp := (kp_pfI e11).trans hp
  obtain ⟨x15, e15, h⟩ := bd h
  have hi := (j_X11_begin e15 ).trans hi
  have hp := (p_X11_begin e15).trans hp
  obtain ⟨b20, w20, h⟩ := bd h
  have hi := (j_X11_town_W20 w20 (rch_sub c_a0 r_a0 (by decide) hp)).trans hi
  have hp := (p_X11_town_W20 w20).trans hp
  rcases b20 with b20 | b20
  · have h := Option.some.inj h
    subst h
    exact hi
  · rcases b20 with b20 | b20
    · exact (j_X11_town_J45 h ).trans hi
    · exact (j_X11_town_J63 h (rch_sub c_a0 r_a0 (by decide) hp)).trans hi
theorem j_X11_turn {a0 : Nat} {l1 : Int32} {μ : Mm} {x : (Int32 × Mm)} {q : Nat} (h : f_X11_turn a0 l1 μ = some x)  : mm_L ((fun (q : (Int32 × Mm)) => q.2) x) q = mm_L μ q := by
  have hi : mm_L μ q = mm_L μ q := rfl
  have hp : mm_P μ = mm_P μ := rfl
  have r_a0 : rch (mm_P μ) a0 [] a0 := rfl
  obtain ⟨_, h⟩ := ite_p h
  obtain ⟨x3, e3, h⟩ := bd h
  obtain ⟨x8, e8, h⟩ := bd h
  rcases ite_e h with ⟨_, h⟩ | ⟨_, h⟩
  · have h := Option.some.inj h
    subst h
    exact hi
  · obtain ⟨μ19, e19, h⟩ := bd h
    have hi := (kj_pfI e19).trans hi
    have hp := (kp_pfI e19).trans hp
    have h := Option.some.inj h
    subst h
    exact hi
