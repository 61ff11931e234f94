/-! ===== the memory of the class and of the reference as plain functions: ints, longs, references by address and place; kinds; where strings lie; the next address; how many slots were made ===== -/
abbrev Mm : Type := (Nat → Nat → Int32) × (Nat → Nat → Int64) × (Nat → Nat → Option Nat) × (Nat → Nat × Nat) × (Nat → Nat) × Nat × Nat
def mm_I (μ : Mm) : Nat → Nat → Int32 := μ.1
def mm_L (μ : Mm) : Nat → Nat → Int64 := μ.2.1
def mm_P (μ : Mm) : Nat → Nat → Option Nat := μ.2.2.1
def mm_K (μ : Mm) : Nat → Nat × Nat := μ.2.2.2.1
def mm_S (μ : Mm) : Nat → Nat := μ.2.2.2.2.1
def mm_N (μ : Mm) : Nat := μ.2.2.2.2.2.1
/-- how many slots were made -/
def mm_Z (μ : Mm) : Nat := μ.2.2.2.2.2.2
def u1 {α : Type} (f : Nat → α) (k : Nat) (v : α) : Nat → α := fun j => if j = k then v else f j
def ms_I (μ : Mm) (a k : Nat) (v : Int32) : Mm := (u1 μ.1 a (u1 (μ.1 a) k v), μ.2)
def ms_L (μ : Mm) (a k : Nat) (v : Int64) : Mm := (μ.1, u1 μ.2.1 a (u1 (μ.2.1 a) k v), μ.2.2)
def ms_P (μ : Mm) (a k : Nat) (v : Option Nat) : Mm := (μ.1, μ.2.1, u1 μ.2.2.1 a (u1 (μ.2.2.1 a) k v), μ.2.2.2)
/-- kinds of objects: 1 to 12 -/
def cnm (t : Nat) : String := match t with
  | 1 => RX0 | 2 => RX1 | 3 => RX2 | 4 => RX3 | 5 => RX4 | 6 => RX5 | 7 => RX6 | 8 => RX7 | 9 => RX8 | 10 => RX9 | 11 => RX10 | _ => RX11
def cft (t : Nat) : u_T := match t with
  | 1 => TX0 | 2 => TX1 | 3 => TX2 | 4 => TX3 | 5 => TX4 | 6 => TX5 | 7 => TX6 | 8 => TX7 | 9 => TX8 | 10 => TX9 | 11 => TX10 | _ => TX11
def cfn (t : Nat) : Nat := match t with
  | 1 => 11 | 2 => 15 | 3 => 2 | 4 => 5 | 5 => 17 | 6 => 2 | 7 => 7 | 8 => 17 | 9 => 5 | 10 => 4 | 11 => 17 | _ => 73
/-- a new cell of kind t, length n, all zero -/
def mn_C (μ : Mm) (t n : Nat) : Mm := (u1 μ.1 (mm_N μ) (fun _ => 0), u1 μ.2.1 (mm_N μ) (fun _ => 0), u1 μ.2.2.1 (mm_N μ) (fun _ => none), u1 μ.2.2.2.1 (mm_N μ) (t, n), μ.2.2.2.2.1, mm_N μ + 1, mm_Z μ + (if t ≤ 12 then cfn t else n))
def cty (t : Nat) : Nat → FieldType := match t with
  | 1 => tyX0 | 2 => tyX1 | 3 => tyX2 | 4 => tyX3 | 5 => tyX4 | 6 => tyX5 | 7 => tyX6 | 8 => tyX7 | 9 => tyX8 | 10 => tyX9 | 11 => tyX10 | _ => tyX11
/-- kinds of arrays: 20 to 25 -/
def aty (t : Nat) : FieldType := match t with
  | 20 => .int | 21 => .long | 22 => .byte | 23 => .boolean | 24 => .object RX3 | _ => .array .long
def fv (ty : FieldType) (i : Int32) (l : Int64) (r : Option Nat) : Value := match ty with
  | .long => .long l
  | .object _ => va_rf r
  | .array _ => va_rf r
  | _ => .int i
def Ob (U : State) (H : Heap) (a t : Nat) (i : Nat → Int32) (l : Nat → Int64) (r : Nat → Option Nat) : Prop :=
  ∃ (cC : ClassId) (iS : Nat → Nat), u_Kn U (cnm t) (cft t) (cfn t) cC iS ∧ t_OB a cC (cfn t) iS H (fun k => fv (cty t k) (i k) (l k) (r k))
def Ar (U : State) (H : Heap) (a t n : Nat) (i : Nat → Int32) (l : Nat → Int64) (r : Nat → Option Nat) : Prop :=
  ∃ cA : ClassId, ArrOfT U cA (aty t) ∧ va_RA U cA (aty t) ∧ H[a]? = some (arrV cA n (fun k => fv (aty t) (i k) (l k) (r k)))
/-- the string constants -/
def s_own (i : Nat) : String := if i < 13 then "WhoseDay$TownReader" else "WhoseDayModel"
def s_ix (i : Nat) : Nat := [116, 122, 124, 126, 128, 130, 132, 134, 139, 141, 143, 145, 176, 161].getD i 0
def s_tx (i : Nat) : String := ["person", "dreams", "fact", "talk", "nap", "dull", "want", "hide", "trade", "law", "deep", "year", "alone", "person dreams fact talk nap dull law year deep want hide trade alone "].getD i ""
def s_by : List (List Int32) := [[112,101,114,115,111,110],[100,114,101,97,109,115],[102,97,99,116],[116,97,108,107],[110,97,112],[100,117,108,108],[119,97,110,116],[104,105,100,101],[116,114,97,100,101],[108,97,119],[100,101,101,112],[121,101,97,114],[97,108,111,110,101],
  [112,101,114,115,111,110,32,100,114,101,97,109,115,32,102,97,99,116,32,116,97,108,107,32,110,97,112,32,100,117,108,108,32,108,97,119,32,121,101,97,114,32,100,101,101,112,32,119,97,110,116,32,104,105,100,101,32,116,114,97,100,101,32,97,108,111,110,101,32]]
def s_ln : List Nat := [6,6,4,4,3,4,4,4,5,3,4,4,5,69]
/-- G: the first address of ours, and where each string constant (below 14) and its bytes (14 on) lie -/
abbrev Gv : Type := Nat × (Nat → Nat)
def Sr (G : Gv) (U : State) : Prop := ∀ i, i < 14 → vk_R (s_own i) (s_ix i) (s_tx i) (G.2 i) U
def Sx (G : Gv) (U : State) (H : Heap) : Prop := vk_S 14 s_ln s_by G.2 (fun i => G.2 (14 + i)) (fun q => G.1 ≤ q) U H ∧ va_Z "java/lang/String" "COMPACT_STRINGS" "Z" (.int 1) (fun q => G.1 ≤ q) U H ∧ va_Zq "jdk/internal/util/Preconditions" "SIOOBE_FORMATTER" "Ljava/util/function/BiFunction;" (fun q => G.1 ≤ q) U H
def Sim (G : Gv) (U : State) (μ : Mm) (H : Heap) : Prop :=
  (∀ a, 1 ≤ (mm_K μ a).1 → (mm_K μ a).1 ≤ 12 → G.1 ≤ a ∧ Ob U H a (mm_K μ a).1 (mm_I μ a) (mm_L μ a) (mm_P μ a)) ∧
  (∀ a, 20 ≤ (mm_K μ a).1 → (mm_K μ a).1 ≤ 25 → G.1 ≤ a ∧ Ar U H a (mm_K μ a).1 (mm_K μ a).2 (mm_I μ a) (mm_L μ a) (mm_P μ a)) ∧
  (∀ a, (mm_K μ a).1 = 19 → a < G.1 ∧ va_X a (mm_K μ a).2 (mm_I μ a) U H) ∧
  mm_N μ = H.size ∧ G.1 ≤ H.size ∧ mm_S μ = G.2 ∧ Sx G U H
theorem Ob.moved {u U : State} {H : Heap} {a t : Nat} {i : Nat → Int32} {l : Nat → Int64} {r : Nat → Option Nat} (hvm : u.vm.Alike U.vm) (h : Ob u H a t i l r) : Ob U H a t i l r := by
  obtain ⟨cC, iS, h1, h2⟩ := h
  exact ⟨cC, iS, u_Kn_moved hvm h1, h2⟩
theorem Ob.kept {U : State} {H H1 : Heap} {a t : Nat} {i : Nat → Int32} {l : Nat → Int64} {r : Nat → Option Nat} (h : Ob U H a t i l r) (hq : H1[a]? = H[a]?) : Ob U H1 a t i l r := by
  obtain ⟨cC, iS, h1, h2⟩ := h
  exact ⟨cC, iS, h1, h2.kept hq⟩
theorem Ob.lt {U : State} {H : Heap} {a t : Nat} {i : Nat → Int32} {l : Nat → Int64} {r : Nat → Option Nat} (h : Ob U H a t i l r) : a < H.size := by
  obtain ⟨cC, iS, h1, cell, h2, -⟩ := h
  exact (Array.getElem?_eq_some_iff.mp h2).1
theorem Ar.moved {u U : State} {H : Heap} {a t n : Nat} {i : Nat → Int32} {l : Nat → Int64} {r : Nat → Option Nat} (hvm : u.vm.Alike U.vm) (h : Ar u H a t n i l r) : Ar U H a t n i l r := by
  obtain ⟨cA, h1, h2, h3⟩ := h
  exact ⟨cA, arrOfT_moved hvm h1, h2.moved hvm, h3⟩
theorem Ar.kept {U : State} {H H1 : Heap} {a t n : Nat} {i : Nat → Int32} {l : Nat → Int64} {r : Nat → Option Nat} (h : Ar U H a t n i l r) (hq : H1[a]? = H[a]?) : Ar U H1 a t n i l r := by
  obtain ⟨cA, h1, h2, h3⟩ := h
  exact ⟨cA, h1, h2, hq.trans h3⟩
theorem Ar.lt {U : State} {H : Heap} {a t n : Nat} {i : Nat → Int32} {l : Nat → Int64} {r : Nat → Option Nat} (h : Ar U H a t n i l r) : a < H.size := by
  obtain ⟨cA, h1, h2, h3⟩ := h
  exact (Array.getElem?_eq_some_iff.mp h3).1
theorem Sx.moved {G : Gv} {u U : State} {H : Heap} (hvm : u.vm.Alike U.vm) (h : Sx G u H) : Sx G U H := by
  obtain ⟨h1, h2, h3⟩ := h
  exact ⟨h1.moved hvm, h2.moved hvm, h3.moved hvm⟩
theorem Sx.kept {G : Gv} {U : State} {H H1 : Heap} (h : Sx G U H) (hq : ∀ a : Nat, a < H.size → ¬ G.1 ≤ a → H1[a]? = H[a]?) : Sx G U H1 := by
  obtain ⟨h1, h2, h3⟩ := h
  exact ⟨h1.kept hq, h2.kept hq, h3.kept hq⟩
theorem Sim.moved {G : Gv} {u U : State} {μ : Mm} {H : Heap} (hvm : u.vm.Alike U.vm) (h : Sim G u μ H) : Sim G U μ H :=
  ⟨fun a h1 h2 => ⟨(h.1 a h1 h2).1, (h.1 a h1 h2).2.moved hvm⟩, fun a h1 h2 => ⟨(h.2.1 a h1 h2).1, (h.2.1 a h1 h2).2.moved hvm⟩, fun a h1 => ⟨(h.2.2.1 a h1).1, (h.2.2.1 a h1).2.moved hvm⟩, h.2.2.2.1, h.2.2.2.2.1, h.2.2.2.2.2.1, h.2.2.2.2.2.2.moved hvm⟩
/-- one cell of ours changes -/
theorem Sim.one {G : Gv} {s : State} {μ μ' : Mm} {H H1 : Heap} {a : Nat} (h : Sim G s μ H) (ha : G.1 ≤ a) (hz : H1.size = H.size) (ho : ∀ q, q ≠ a → H1[q]? = H[q]?)
    (hK : mm_K μ' = mm_K μ) (hS : mm_S μ' = mm_S μ) (hN : mm_N μ' = mm_N μ) (hI : ∀ b, b ≠ a → mm_I μ' b = mm_I μ b) (hL : ∀ b, b ≠ a → mm_L μ' b = mm_L μ b) (hP : ∀ b, b ≠ a → mm_P μ' b = mm_P μ b)
    (h1 : 1 ≤ (mm_K μ a).1 → (mm_K μ a).1 ≤ 12 → Ob s H1 a (mm_K μ a).1 (mm_I μ' a) (mm_L μ' a) (mm_P μ' a)) (h2 : 20 ≤ (mm_K μ a).1 → (mm_K μ a).1 ≤ 25 → Ar s H1 a (mm_K μ a).1 (mm_K μ a).2 (mm_I μ' a) (mm_L μ' a) (mm_P μ' a)) : Sim G s μ' H1 := by
  obtain ⟨g1, g2, g3, g4, g5, g6, g7⟩ := h
  refine ⟨fun b k1 k2 => ?_, fun b k1 k2 => ?_, fun b k1 => ?_, by rw [hN, g4, hz], by rw [hz]; exact g5, by rw [hS, g6], g7.kept (fun q _ hq => ho q (fun e => hq (e ▸ ha)))⟩
  · rw [hK] at k1 k2 ⊢
    by_cases hb : b = a
    · subst hb
      exact ⟨ha, h1 k1 k2⟩
    · rw [hI b hb, hL b hb, hP b hb]
      exact ⟨(g1 b k1 k2).1, (g1 b k1 k2).2.kept (ho b hb)⟩
  · rw [hK] at k1 k2 ⊢
    by_cases hb : b = a
    · subst hb
      exact ⟨ha, h2 k1 k2⟩
    · rw [hI b hb, hL b hb, hP b hb]
      exact ⟨(g2 b k1 k2).1, (g2 b k1 k2).2.kept (ho b hb)⟩
  · rw [hK] at k1 ⊢
    have hb : b ≠ a := fun e => by have := (g3 b k1).1; omega
    rw [hI b hb]
    exact ⟨(g3 b k1).1, (g3 b k1).2.kept (ho b hb)⟩
/-- a cell of ours comes -/
theorem Sim.new {G : Gv} {s : State} {μ : Mm} {H H1 : Heap} {t n : Nat} (h : Sim G s μ H) (hz : H1.size = H.size + 1) (ho : ∀ q, q < H.size → H1[q]? = H[q]?) (ht : t ≠ 19)
    (h1 : 1 ≤ t → t ≤ 12 → Ob s H1 H.size t (fun _ => 0) (fun _ => 0) (fun _ => none)) (h2 : 20 ≤ t → t ≤ 25 → Ar s H1 H.size t n (fun _ => 0) (fun _ => 0) (fun _ => none)) : Sim G s (mn_C μ t n) H1 := by
  obtain ⟨g1, g2, g3, g4, g5, g6, g7⟩ := h
  have eN : mm_N μ = H.size := g4
  have eK : ∀ b, mm_K (mn_C μ t n) b = if b = H.size then (t, n) else mm_K μ b := fun b => by rw [← eN]; rfl
  have eI : ∀ b, mm_I (mn_C μ t n) b = if b = H.size then (fun _ => 0) else mm_I μ b := fun b => by rw [← eN]; rfl
  have eL : ∀ b, mm_L (mn_C μ t n) b = if b = H.size then (fun _ => 0) else mm_L μ b := fun b => by rw [← eN]; rfl
  have eP : ∀ b, mm_P (mn_C μ t n) b = if b = H.size then (fun _ => none) else mm_P μ b := fun b => by rw [← eN]; rfl
  refine ⟨fun b k1 k2 => ?_, fun b k1 k2 => ?_, fun b k1 => ?_, by show mm_N μ + 1 = _; omega, by omega, g6, g7.kept (fun q hq _ => ho q hq)⟩
  · rw [eK] at k1 k2 ⊢
    rw [eI, eL, eP]
    by_cases hb : b = H.size
    · simp only [if_pos hb] at k1 k2 ⊢
      rw [hb]
      exact ⟨g5, h1 k1 k2⟩
    · simp only [if_neg hb] at k1 k2 ⊢
      exact ⟨(g1 b k1 k2).1, (g1 b k1 k2).2.kept (ho b (g1 b k1 k2).2.lt)⟩
  · rw [eK] at k1 k2 ⊢
    rw [eI, eL, eP]
    by_cases hb : b = H.size
    · simp only [if_pos hb] at k1 k2 ⊢
      rw [hb]
      exact ⟨g5, h2 k1 k2⟩
    · simp only [if_neg hb] at k1 k2 ⊢
      exact ⟨(g2 b k1 k2).1, (g2 b k1 k2).2.kept (ho b (g2 b k1 k2).2.lt)⟩
  · rw [eK] at k1 ⊢
    rw [eI]
    by_cases hb : b = H.size
    · simp only [if_pos hb] at k1
      exact absurd k1 ht
    · simp only [if_neg hb] at k1 ⊢
      have h9 := (g3 b k1).1
      exact ⟨h9, (g3 b k1).2.kept (ho b (by omega))⟩
/-! what a model's instruction answers; none: the machine isn't told -/
def gf_I (t k a : Nat) (μ : Mm) : Option Int32 := if (mm_K μ a).1 = t then some (mm_I μ a k) else none
def gf_L (t k a : Nat) (μ : Mm) : Option Int64 := if (mm_K μ a).1 = t then some (mm_L μ a k) else none
def gf_P (t k a : Nat) (μ : Mm) : Option Nat := if (mm_K μ a).1 = t then mm_P μ a k else none
def pf_I (t k a : Nat) (v : Int32) (μ : Mm) : Option Mm := if (mm_K μ a).1 = t then some (ms_I μ a k v) else none
def pf_Z (t k a : Nat) (v : Int32) (μ : Mm) : Option Mm := if (mm_K μ a).1 = t ∧ (v = 0 ∨ v = 1) then some (ms_I μ a k v) else none
def pf_L (t k a : Nat) (v : Int64) (μ : Mm) : Option Mm := if (mm_K μ a).1 = t then some (ms_L μ a k v) else none
def pf_P (t k a : Nat) (v : Nat) (μ : Mm) : Option Mm := if (mm_K μ a).1 = t then some (ms_P μ a k (some v)) else none
def ga_I (a : Nat) (i : Int32) (μ : Mm) : Option Int32 := if (mm_K μ a).1 = 20 ∧ 0 ≤ i.toInt ∧ i.toInt < (mm_K μ a).2 then some (mm_I μ a i.toNatClampNeg) else none
def ga_L (a : Nat) (i : Int32) (μ : Mm) : Option Int64 := if (mm_K μ a).1 = 21 ∧ 0 ≤ i.toInt ∧ i.toInt < (mm_K μ a).2 then some (mm_L μ a i.toNatClampNeg) else none
def ga_B (a : Nat) (i : Int32) (μ : Mm) : Option Int32 := if (mm_K μ a).1 = 22 ∧ 0 ≤ i.toInt ∧ i.toInt < (mm_K μ a).2 then some (mm_I μ a i.toNatClampNeg) else none
def ga_Z (a : Nat) (i : Int32) (μ : Mm) : Option Int32 := if (mm_K μ a).1 = 23 ∧ 0 ≤ i.toInt ∧ i.toInt < (mm_K μ a).2 then some (mm_I μ a i.toNatClampNeg) else none
def ga_P (t a : Nat) (i : Int32) (μ : Mm) : Option Nat := if (mm_K μ a).1 = t ∧ 0 ≤ i.toInt ∧ i.toInt < (mm_K μ a).2 then mm_P μ a i.toNatClampNeg else none
def pa_I (a : Nat) (i : Int32) (v : Int32) (μ : Mm) : Option Mm := if (mm_K μ a).1 = 20 ∧ 0 ≤ i.toInt ∧ i.toInt < (mm_K μ a).2 then some (ms_I μ a i.toNatClampNeg v) else none
def pa_L (a : Nat) (i : Int32) (v : Int64) (μ : Mm) : Option Mm := if (mm_K μ a).1 = 21 ∧ 0 ≤ i.toInt ∧ i.toInt < (mm_K μ a).2 then some (ms_L μ a i.toNatClampNeg v) else none
def pa_B (a : Nat) (i : Int32) (v : Int32) (μ : Mm) : Option Mm := if (mm_K μ a).1 = 22 ∧ 0 ≤ i.toInt ∧ i.toInt < (mm_K μ a).2 then some (ms_I μ a i.toNatClampNeg (v.toInt8.toInt32)) else none
def pa_Z (a : Nat) (i : Int32) (v : Int32) (μ : Mm) : Option Mm := if (mm_K μ a).1 = 23 ∧ 0 ≤ i.toInt ∧ i.toInt < (mm_K μ a).2 ∧ (v = 0 ∨ v = 1) then some (ms_I μ a i.toNatClampNeg v) else none
def ga_len (a : Nat) (μ : Mm) : Option Int32 := if 20 ≤ (mm_K μ a).1 ∧ (mm_K μ a).1 ≤ 25 then some (nI (mm_K μ a).2) else none
