/-! ===== what stays: kinds, strings, how much was made; methods that make cells ===== -/
def tl (μ : Mm) : (Nat → Nat × Nat) × (Nat → Nat) × Nat × Nat := μ.2.2.2
theorem tl_K {μ μ' : Mm} (h : tl μ' = tl μ) : mm_K μ' = mm_K μ := congrArg Prod.fst h
theorem tl_S {μ μ' : Mm} (h : tl μ' = tl μ) : mm_S μ' = mm_S μ := congrArg (fun q => q.2.1) h
theorem tl_N {μ μ' : Mm} (h : tl μ' = tl μ) : mm_N μ' = mm_N μ := congrArg (fun q => q.2.2.1) h
theorem tl_Z {μ μ' : Mm} (h : tl μ' = tl μ) : mm_Z μ' = mm_Z μ := congrArg (fun q => q.2.2.2) h
/-- the memory has grown -/
def Gr (μ μ' : Mm) : Prop := mm_S μ' = mm_S μ ∧ mm_N μ ≤ mm_N μ' ∧ mm_Z μ ≤ mm_Z μ' ∧ ∀ a, a < mm_N μ → mm_K μ' a = mm_K μ a
theorem Gr.rfl {μ : Mm} : Gr μ μ := ⟨Eq.refl _, Nat.le_refl _, Nat.le_refl _, fun _ _ => Eq.refl _⟩
theorem Gr.trans {μ μ1 μ2 : Mm} (h : Gr μ μ1) (k : Gr μ1 μ2) : Gr μ μ2 := ⟨k.1.trans h.1, Nat.le_trans h.2.1 k.2.1, Nat.le_trans h.2.2.1 k.2.2.1, fun a ha => (k.2.2.2 a (Nat.lt_of_lt_of_le ha h.2.1)).trans (h.2.2.2 a ha)⟩
theorem Gr.of {μ μ' : Mm} (h : tl μ' = tl μ) : Gr μ μ' := ⟨tl_S h, Nat.le_of_eq (tl_N h).symm, Nat.le_of_eq (tl_Z h).symm, fun a _ => by rw [tl_K h]⟩
theorem bd {α β : Type} {x : Option α} {f : α → Option β} {b : β} (h : x.bind f = some b) : ∃ a, x = some a ∧ f a = some b := by
  cases x with
  | none => cases h
  | some a => exact ⟨a, rfl, h⟩
theorem ite_e {α : Type} {c : Prop} [Decidable c] {x y : Option α} {b : α} (h : (if c then x else y) = some b) : (c ∧ x = some b) ∨ (¬ c ∧ y = some b) := by
  by_cases hc : c
  · exact Or.inl ⟨hc, by rw [if_pos hc] at h; exact h⟩
  · exact Or.inr ⟨hc, by rw [if_neg hc] at h; exact h⟩
theorem ite_p {α : Type} {c : Prop} [Decidable c] {x : Option α} {b : α} (h : (if c then x else none) = some b) : c ∧ x = some b := by
  rcases ite_e h with h | ⟨-, h⟩
  · exact h
  · cases h
theorem ite_n {α : Type} {c : Prop} [Decidable c] {y : Option α} {b : α} (h : (if c then none else y) = some b) : ¬ c ∧ y = some b := by
  rcases ite_e h with ⟨-, h⟩ | h
  · cases h
  · exact h
theorem kq_pfI {t k a : Nat} {v : Int32} {μ μ' : Mm} (h : pf_I t k a v μ = some μ') : tl μ' = tl μ := by obtain ⟨_, h⟩ := ite_p h; cases h; rfl
theorem kq_pfZ {t k a : Nat} {v : Int32} {μ μ' : Mm} (h : pf_Z t k a v μ = some μ') : tl μ' = tl μ := by obtain ⟨_, h⟩ := ite_p h; cases h; rfl
theorem kq_pfL {t k a : Nat} {v : Int64} {μ μ' : Mm} (h : pf_L t k a v μ = some μ') : tl μ' = tl μ := by obtain ⟨_, h⟩ := ite_p h; cases h; rfl
theorem kq_pfP {t k a v : Nat} {μ μ' : Mm} (h : pf_P t k a v μ = some μ') : tl μ' = tl μ := by obtain ⟨_, h⟩ := ite_p h; cases h; rfl
theorem kq_paI {a : Nat} {i v : Int32} {μ μ' : Mm} (h : pa_I a i v μ = some μ') : tl μ' = tl μ := by obtain ⟨_, h⟩ := ite_p h; cases h; rfl
theorem kq_paL {a : Nat} {i : Int32} {v : Int64} {μ μ' : Mm} (h : pa_L a i v μ = some μ') : tl μ' = tl μ := by obtain ⟨_, h⟩ := ite_p h; cases h; rfl
theorem kq_paB {a : Nat} {i v : Int32} {μ μ' : Mm} (h : pa_B a i v μ = some μ') : tl μ' = tl μ := by obtain ⟨_, h⟩ := ite_p h; cases h; rfl
theorem kq_paZ {a : Nat} {i v : Int32} {μ μ' : Mm} (h : pa_Z a i v μ = some μ') : tl μ' = tl μ := by obtain ⟨_, h⟩ := ite_p h; cases h; rfl
theorem kq_cpI {s d : Nat} {i j n : Int32} {μ μ' : Mm} (h : cp_I s i d j n μ = some μ') : tl μ' = tl μ := by obtain ⟨_, h⟩ := ite_p h; cases h; rfl
theorem whl_inv {σ β : Type} {body : σ → Option (σ ⊕ β)} {P : σ → Prop} {Q : β → Prop} (hb : ∀ s x, P s → body s = some x → sm P Q x) {s : σ} {b : β} (hs : P s) (h : whl body s = some b) : Q b := by
  obtain ⟨n, hn⟩ := (whl_iff body s b).mp h
  clear h
  induction n generalizing s with
  | zero => cases hn
  | succ n ih =>
    obtain ⟨y, hy, hn⟩ := bd (show (body s).bind (sm (whn body n) some) = some b from hn)
    have h1 := hb s y hs hy
    cases y with
    | inl s' => exact ih h1 hn
    | inr b' => cases hn; exact h1
theorem whl_tl {σ β : Type} {body : σ → Option (σ ⊕ β)} {g : σ → Mm} {gb : β → Mm} (hb : ∀ s x, body s = some x → tl (sm g gb x) = tl (g s)) {s : σ} {b : β} (h : whl body s = some b) : tl (gb b) = tl (g s) := by
  refine whl_inv (P := fun s' => tl (g s') = tl (g s)) (Q := fun b' => tl (gb b') = tl (g s)) (fun s' x hs hx => ?_) rfl h
  have h1 := (hb s' x hx).trans hs
  cases x <;> exact h1
theorem whl_gr {σ β : Type} {body : σ → Option (σ ⊕ β)} {g : σ → Mm} {gb : β → Mm} (hb : ∀ s x, body s = some x → Gr (g s) (sm g gb x)) {s : σ} {b : β} (h : whl body s = some b) : Gr (g s) (gb b) := by
  refine whl_inv (P := fun s' => Gr (g s) (g s')) (Q := fun b' => Gr (g s) (gb b')) (fun s' x hs hx => ?_) Gr.rfl h
  have h1 := hs.trans (hb s' x hx)
  cases x <;> exact h1
theorem whl_B {σ β : Type} {body : σ → Option (σ ⊕ β)} {RR : σ → Prop} {KK : β → Prop} {g : σ → Mm} {gb : β → Mm} {Nr Zr : Nat} {s0 : σ} (hm : ∀ s x, body s = some x → Gr (g s) (sm g gb x)) (hk : ∀ b, KK b → mm_N (gb b) ≤ Nr ∧ mm_Z (gb b) ≤ Zr)
    (step : ∀ (s : σ) (K : σ ⊕ β → Prop), (∀ s', K (.inl s') → RR s') → (∀ b, K (.inr b) → KK b) → (∀ x, K x → mm_N (sm g gb x) ≤ Nr ∧ mm_Z (sm g gb x) ≤ Zr) → Sat (body s) K → RR s) (h : Sat (whl body s0) KK) : RR s0 := by
  obtain ⟨b, hb, hK⟩ := h
  obtain ⟨n, hn⟩ := (whl_iff body s0 b).mp hb
  clear hb
  have key : ∀ (n : Nat) (s : σ), whn body n s = some b → RR s ∧ mm_N (g s) ≤ Nr ∧ mm_Z (g s) ≤ Zr := by
    intro n
    induction n with
    | zero => intro s hn; cases hn
    | succ n ih =>
      intro s hn
      obtain ⟨y, hy, hn⟩ := bd (show (body s).bind (sm (whn body n) some) = some b from hn)
      have hg := hm s y hy
      cases y with
      | inl s' =>
        obtain ⟨k1, k2, k3⟩ := ih s' hn
        refine ⟨step s (sm (fun s' => RR s' ∧ mm_N (g s') ≤ Nr ∧ mm_Z (g s') ≤ Zr) KK) (fun _ h => h.1) (fun _ h => h) (fun x hx => ?_) ⟨_, hy, ⟨k1, k2, k3⟩⟩, Nat.le_trans hg.2.1 k2, Nat.le_trans hg.2.2.1 k3⟩
        cases x with
        | inl q => exact hx.2
        | inr q => exact hk q hx
      | inr b' =>
        cases hn
        have k := hk b hK
        refine ⟨step s (sm (fun s' => RR s' ∧ mm_N (g s') ≤ Nr ∧ mm_Z (g s') ≤ Zr) KK) (fun _ h => h.1) (fun _ h => h) (fun x hx => ?_) ⟨_, hy, hK⟩, Nat.le_trans hg.2.1 k.1, Nat.le_trans hg.2.2.1 k.2⟩
        cases x with
        | inl q => exact hx.2
        | inr q => exact hk q hx
  exact (key n s0 hn).1
/-- since μ0, c cells of z slots were made -/
def Nz (μ0 μ : Mm) (c z : Nat) : Prop := mm_N μ = mm_N μ0 + c ∧ mm_Z μ = mm_Z μ0 + z
theorem nz_tl {μ0 μ μ' : Mm} {c z : Nat} (h : tl μ' = tl μ) (hN : Nz μ0 μ c z) : Nz μ0 μ' c z := ⟨(tl_N h).trans hN.1, (tl_Z h).trans hN.2⟩
theorem nz_call {μ0 μ μ' : Mm} {c z : Nat} (h : Gr μ μ') (hN : Nz μ0 μ c z) : Nz μ0 μ' (c + (mm_N μ' - mm_N μ)) (z + (mm_Z μ' - mm_Z μ)) := by
  obtain ⟨h1, h2⟩ := hN
  obtain ⟨-, h3, h4, -⟩ := h
  exact ⟨by omega, by omega⟩
theorem gr_N {μ μ' : Mm} : mm_N μ' ≤ mm_N μ + (mm_N μ' - mm_N μ) := by omega
theorem gr_Z {μ μ' : Mm} : mm_Z μ' ≤ mm_Z μ + (mm_Z μ' - mm_Z μ) := by omega
theorem bud_of {μ0 μ : Mm} {c z mc ms : Nat} (hN : Nz μ0 μ c z) (h : mm_N μ ≤ mm_N μ0 + mc ∧ mm_Z μ ≤ mm_Z μ0 + ms) : c ≤ mc ∧ z ≤ ms := by
  obtain ⟨h1, h2⟩ := hN
  exact ⟨by omega, by omega⟩
theorem bud_le {μ μ' : Mm} {a b : Nat} (h : Gr μ μ') (k : mm_N μ' ≤ a ∧ mm_Z μ' ≤ b) : mm_N μ ≤ a ∧ mm_Z μ ≤ b := ⟨Nat.le_trans h.2.1 k.1, Nat.le_trans h.2.2.1 k.2⟩
theorem mn_gr (μ : Mm) (t n : Nat) : Gr μ (mn_C μ t n) := ⟨rfl, Nat.le_succ _, Nat.le_add_right _ _, fun a ha => if_neg (by omega)⟩
def nw_O (t : Nat) (μ : Mm) : Option (Nat × Mm) := some (mm_N μ, mn_C μ t 0)
theorem gr_O {t : Nat} {μ : Mm} {r : Nat × Mm} (h : nw_O t μ = some r) : Gr μ r.2 := by cases h; exact mn_gr μ t 0
theorem gr_A {t : Nat} {n : Int32} {μ : Mm} {r : Nat × Mm} (_ : 12 < t) (h : nw_A t n μ = some r) : Gr μ r.2 := by obtain ⟨_, h⟩ := ite_p h; cases h; exact mn_gr μ t _
theorem nz_O {μ0 : Mm} {c z t : Nat} {μ : Mm} {r : Nat × Mm} (h : nw_O t μ = some r) (hN : Nz μ0 μ c z) (ht : t ≤ 12) : Nz μ0 r.2 (c + 1) (z + cfn t) := by
  cases h
  obtain ⟨h1, h2⟩ := hN
  refine ⟨?_, ?_⟩
  · show mm_N μ + 1 = _
    omega
  · show mm_Z μ + (if t ≤ 12 then cfn t else 0) = _
    rw [if_pos ht]
    omega
theorem nz_A {μ0 : Mm} {c z t : Nat} {n : Int32} {μ : Mm} {r : Nat × Mm} (ht : 12 < t) (h : nw_A t n μ = some r) (hN : Nz μ0 μ c z) : Nz μ0 r.2 (c + 1) (z + n.toNatClampNeg) := by
  obtain ⟨_, h⟩ := ite_p h
  cases h
  obtain ⟨h1, h2⟩ := hN
  refine ⟨?_, ?_⟩
  · show mm_N μ + 1 = _
    omega
  · show mm_Z μ + (if t ≤ 12 then cfn t else n.toNatClampNeg) = _
    rw [if_neg (by omega)]
    omega
/-- an element of an array of references -/
def pa_P (t a : Nat) (i : Int32) (v : Nat) (μ : Mm) : Option Mm := if (mm_K μ a).1 = t ∧ (0 ≤ i.toInt ∧ i.toInt < (mm_K μ a).2) ∧ (mm_K μ v).1 = (if t = 24 then 4 else 21) then some (ms_P μ a i.toNatClampNeg (some v)) else none
theorem kq_paP {t a v : Nat} {i : Int32} {μ μ' : Mm} (h : pa_P t a i v μ = some μ') : tl μ' = tl μ := by obtain ⟨_, h⟩ := ite_p h; cases h; rfl
/-- twelve arrays of longs, of no length, in an array -/
def mn_M (μ : Mm) : Mm := (fun a => if mm_N μ ≤ a ∧ a < mm_N μ + 13 then (fun _ => 0) else mm_I μ a, fun a => if mm_N μ ≤ a ∧ a < mm_N μ + 13 then (fun _ => 0) else mm_L μ a,
  fun a => if a = mm_N μ then (fun j => if j < 12 then some (mm_N μ + 1 + j) else none) else if mm_N μ ≤ a ∧ a < mm_N μ + 13 then (fun _ => none) else mm_P μ a,
  fun a => if a = mm_N μ then (25, 12) else if mm_N μ ≤ a ∧ a < mm_N μ + 13 then (21, 0) else mm_K μ a, mm_S μ, mm_N μ + 13, mm_Z μ + 12)
def nw_M (n k : Int32) (μ : Mm) : Option (Nat × Mm) := if n = 12 ∧ k = 0 then some (mm_N μ, mn_M μ) else none
theorem gr_M {n k : Int32} {μ : Mm} {r : Nat × Mm} (h : nw_M n k μ = some r) : Gr μ r.2 := by
  obtain ⟨_, h⟩ := ite_p h
  cases h
  refine ⟨rfl, Nat.le_add_right _ _, Nat.le_add_right _ _, fun a ha => ?_⟩
  show (if a = mm_N μ then ((25, 12) : Nat × Nat) else if mm_N μ ≤ a ∧ a < mm_N μ + 13 then (21, 0) else mm_K μ a) = _
  rw [if_neg (by omega), if_neg (by omega)]
theorem nz_M {μ0 : Mm} {c z : Nat} {n k : Int32} {μ : Mm} {r : Nat × Mm} (h : nw_M n k μ = some r) (hN : Nz μ0 μ c z) : Nz μ0 r.2 (c + 13) (z + 12) := by
  obtain ⟨_, h⟩ := ite_p h
  cases h
  obtain ⟨h1, h2⟩ := hN
  refine ⟨?_, ?_⟩
  · show mm_N μ + 13 = _
    omega
  · show mm_Z μ + 12 = _
    omega
section RB
variable {G : Gv} {own : String} {cc : ByteArray} {nL : Nat} {ret : Option FieldType} {nm : String} {R : Room} {Z : Zt} {cells slots pc : Nat} {lv : List (Nat × Value)} {μ : Mm}
theorem r_newO {idx t : Nat} {st : List Value} {r : Nat × Mm} (hx : nw_O t μ = some r) (ht : 1 ≤ t ∧ t ≤ 12) (hcl : Cond.classLink own idx (cnm t) ∈ lw_ok) (htys : ∀ k, k < cfn t → is_i (cty t k) = true ∨ is_r (cty t k) = true ∨ cty t k = .long) (hcs : cells + 1 ≤ R.cells ∧ slots + cfn t ≤ R.slots) (hd : decode cc pc = .ok (.new idx, 3))
    (kk : Rn G own cc nL ret nm R Z (cells + 1) (slots + cfn t) (pc + 3) lv (.ref r.1 :: st) r.2) : Rn G own cc nL ret nm R Z cells slots pc lv st μ := by
  cases hx
  exact r_new ht hcl htys hcs hd kk
theorem r_cI {y : MethodName} {cc' : ByteArray} {nL' d' n idx b : Nat} (As st : List Value) {stk : List Value} {rv : Option Value} {μ1 : Mm} (hM : Mt G y cc' nL' none d' 0 0 (.ref b :: As) μ (fun v μ' => v = rv ∧ μ' = μ1)) (hc : Ck y cc' nL' none n) (hlk : Lk own idx y) (hin : Cond.instanceMethod y ∈ lw_ok) (hy : y.name = "<init>")
    (hn : As.length = n) (hst : stk = As.reverse ++ .ref b :: st) (hW : (st.map fun v => v.category).sum ≤ 8) (hR : d' + 1 ≤ R.frames ∧ 64 * d' + 64 ≤ R.locals) (hcs : cells ≤ R.cells ∧ slots ≤ R.slots) (hd : decode cc pc = .ok (.invokespecial idx, 3))
    (kk : Rn G own cc nL ret nm R Z cells slots (pc + 3) lv (rv.toList ++ st) μ1) : Rn G own cc nL ret nm R Z cells slots pc lv stk μ :=
  r_callI As hM hc hlk hin hy hn hst hW hR hcs hd (fun v μ' h => by obtain ⟨rfl, rfl⟩ := h; exact kk)
theorem r_bI {y : MethodName} {cc' : ByteArray} {nL' d' mc' ms' n idx b : Nat} (As st : List Value) {stk : List Value} {rv : Option Value} {μ1 : Mm} (hM : Mt G y cc' nL' none d' mc' ms' (.ref b :: As) μ (fun v μ' => v = rv ∧ μ' = μ1)) (hc : Ck y cc' nL' none n) (hlk : Lk own idx y) (hin : Cond.instanceMethod y ∈ lw_ok) (hy : y.name = "<init>")
    (hn : As.length = n) (hst : stk = As.reverse ++ .ref b :: st) (hW : (st.map fun v => v.category).sum ≤ 8) (hR : d' + 1 ≤ R.frames ∧ 64 * d' + 64 ≤ R.locals) (hcs : cells + mc' ≤ R.cells ∧ slots + ms' ≤ R.slots) (hd : decode cc pc = .ok (.invokespecial idx, 3))
    (kk : Rn G own cc nL ret nm R Z (cells + mc') (slots + ms') (pc + 3) lv (rv.toList ++ st) μ1) : Rn G own cc nL ret nm R Z cells slots pc lv stk μ :=
  r_callI As hM hc hlk hin hy hn hst hW hR hcs hd (fun v μ' h => by obtain ⟨rfl, rfl⟩ := h; exact kk)
theorem r_bV {y : MethodName} {cc' : ByteArray} {nL' d' mc' ms' n idx b t : Nat} {ret' : Option FieldType} (As st : List Value) {stk : List Value} {rv : Option Value} {μ1 : Mm} (hM : Mt G y cc' nL' ret' d' mc' ms' (.ref b :: As) μ (fun v μ' => v = rv ∧ μ' = μ1)) (hc : Ck y cc' nL' ret' n) (hlk : Lk own idx y) (hin : Cond.instanceMethod y ∈ lw_ok) (hse : Cond.selects y.cls y y ∈ lw_ok)
    (hK : (mm_K μ b).1 = t) (ht : cnm t = y.cls ∧ 1 ≤ t ∧ t ≤ 12) (hn : As.length = n) (hst : stk = As.reverse ++ .ref b :: st) (hW : (st.map fun v => v.category).sum ≤ 8) (hR : d' + 1 ≤ R.frames ∧ 64 * d' + 64 ≤ R.locals) (hcs : cells + mc' ≤ R.cells ∧ slots + ms' ≤ R.slots) (hd : decode cc pc = .ok (.invokevirtual idx, 3))
    (kk : Rn G own cc nL ret nm R Z (cells + mc') (slots + ms') (pc + 3) lv (rv.toList ++ st) μ1) : Rn G own cc nL ret nm R Z cells slots pc lv stk μ :=
  r_callV As hM hc hlk hin hse hK ht hn hst hW hR hcs hd (fun v μ' h => by obtain ⟨rfl, rfl⟩ := h; exact kk)
theorem r_anew {n : Int32} {idx : Nat} {st : List Value} {r : Nat × Mm} (hx : nw_A 24 n μ = some r) (hcl : Cond.classLink own idx (cnm 4) ∈ lw_ok) (hcs : cells + 1 ≤ R.cells ∧ slots + n.toNatClampNeg ≤ R.slots) (hd : decode cc pc = .ok (.anewarray idx, 3))
    (kk : Rn G own cc nL ret nm R Z (cells + 1) (slots + n.toNatClampNeg) (pc + 3) lv (.ref r.1 :: st) r.2) : Rn G own cc nL ret nm R Z cells slots pc lv (.int n :: st) μ :=
  fun p l e s m args below meth c H locs ls C hS hL hl => by
    obtain ⟨hn, hx⟩ := ite_p hx
    cases hx
    have hts := C.2.2.2.2.2.2.1
    have hc : n.toNatClampNeg ≤ 100000 := by
      have : (n.toNatClampNeg : Int) = n.toInt := Int.toNat_of_nonneg hn.1
      omega
    refine W.anew C.1 C.2.1 C.2.2.2.2.2.1 (hts _ hcl) (va_AO.use C.2.2.2.2.2.2.2.2.2.2.1) rfl hd rfl ?_ (by omega) hcs.1 hcs.2 fun cA kA comp f1 f2 f3 f4 => ?_
    · intro h
      have := Int32.lt_iff_toInt_lt.mp h
      have h0 : (0 : Int32).toInt = 0 := by decide
      omega
    generalize hH1 : H.push ({ cls := cA, slots := Array.replicate n.toNatClampNeg .null, vm := .none } : Cell) = H1
    have z1 : H1.size = H.size + 1 := by rw [← hH1, Array.size_push]
    have e1 : H1[H.size]? = some (arrV cA n.toNatClampNeg (fun _ => .null)) := by rw [← hH1, Array.getElem?_push_size, ← arrV_new]
    have o1 : ∀ q : Nat, q < H.size → H1[q]? = H[q]? := fun q hq => by rw [← hH1, Array.getElem?_push, if_neg (Nat.ne_of_lt hq)]
    have hAr : ArrOfT s cA (.object RX3) := fun N z => ⟨(fun k h => by cases h), kA, f2, comp, f3⟩
    have hN : mm_N μ = H.size := hS.2.2.2.1
    have kk' := kk p l e s m args below meth c H1 locs ls C (hS.new z1 o1 (by omega) (fun _ h9 => by omega) (fun _ _ => ⟨cA, hAr, ⟨kA, comp, f2, f3, f4, f1⟩, e1⟩)) hL hl
    rw [hN] at kk'
    exact kk'
theorem r_aastore24 {a v : Nat} {i : Int32} {st : List Value} {μ' : Mm} (hx : pa_P 24 a i v μ = some μ') (hd : decode cc pc = .ok (.aastore, 1)) (kk : Rn G own cc nL ret nm R Z cells slots (pc + 1) lv st μ') : Rn G own cc nL ret nm R Z cells slots pc lv (.ref v :: .int i :: .ref a :: st) μ := by
  obtain ⟨⟨hK, hin, hv⟩, hx⟩ := ite_p hx
  cases hx
  have hv : (mm_K μ v).1 = 4 := hv
  refine r_ast (μ' := ms_P μ a i.toNatClampNeg (some v)) (t := 24) (w := .ref v) ⟨by decide, by decide⟩ hK hin rfl rfl rfl (fun _ _ => rfl) (fun _ _ => rfl) (fun b hb => u1_n _ _ hb) (fun j => ?_) (fun p l e s m args below meth c H locs ls cell C hS q3 q4 q4b q5 q6 q8 => ?_) kk
  · show va_rf (u1 μ.2.2.1 a (u1 (μ.2.2.1 a) _ (some v)) a j) = _
    rw [u1_s, u1_d]
    by_cases hj : j = i.toNatClampNeg
    · rw [if_pos hj, if_pos hj]; rfl
    · rw [if_neg hj, if_neg hj]; rfl
  · obtain ⟨-, cC, iS, ⟨-, hat⟩, cv, g1, g2, g3, -⟩ := hS.1 v (by omega) (by omega)
    rw [hv] at hat
    obtain ⟨kA, comp, k1, k2, k3, -⟩ := q4b
    have hcomp : comp = cC := Option.some.inj (k3.symm.trans hat.1)
    subst hcomp
    obtain ⟨kC, hkC, hkd⟩ := hat.2
    exact W.aast C.1 C.2.1 q3 (fun q h => by rw [q5] at h; cases h) (by rw [q5]; exact fun h => by cases h) k1 k2 rfl hkC ⟨fun h => q6 (Or.inl h), Nat.not_le.mp (fun h => q6 (Or.inr h))⟩ g1 (fun q h => by rw [g3] at h; cases h) (by rw [g2]; exact hkC) (by rw [g2]; exact va_assign hat) rfl rfl hd q8
theorem r_aastore25 {a v : Nat} {i : Int32} {st : List Value} {μ' : Mm} (hx : pa_P 25 a i v μ = some μ') (hd : decode cc pc = .ok (.aastore, 1)) (kk : Rn G own cc nL ret nm R Z cells slots (pc + 1) lv st μ') : Rn G own cc nL ret nm R Z cells slots pc lv (.ref v :: .int i :: .ref a :: st) μ := by
  obtain ⟨⟨hK, hin, hv⟩, hx⟩ := ite_p hx
  cases hx
  have hv : (mm_K μ v).1 = 21 := hv
  refine r_ast (μ' := ms_P μ a i.toNatClampNeg (some v)) (t := 25) (w := .ref v) ⟨by decide, by decide⟩ hK hin rfl rfl rfl (fun _ _ => rfl) (fun _ _ => rfl) (fun b hb => u1_n _ _ hb) (fun j => ?_) (fun p l e s m args below meth c H locs ls cell C hS q3 q4 q4b q5 q6 q8 => ?_) kk
  · show va_rf (u1 μ.2.2.1 a (u1 (μ.2.2.1 a) _ (some v)) a j) = _
    rw [u1_s, u1_d]
    by_cases hj : j = i.toNatClampNeg
    · rw [if_pos hj, if_pos hj]; rfl
    · rw [if_neg hj, if_neg hj]; rfl
  · obtain ⟨-, cv, g1, g2, g3⟩ := hS.2.1 v (by omega) (by omega)
    rw [hv] at g1 g2 g3
    obtain ⟨comp, co, k, k1, k2, k3, k4⟩ := Cond.arrayOver_specA (show (Cond.arrayOver (.array .long)).holds #[] s none s [] = true from C.2.2.2.2.2.2.2.2.2.2.2)
    have e1 : co = cell.cls := Option.some.inj (k4.symm.trans q4b)
    have e2 : comp = cv := Option.some.inj (k1.symm.trans g2)
    subst e1
    subst e2
    obtain ⟨-, kv, hkv, cm, hkk⟩ := g1 0 (fun _ => .null)
    exact W.aast C.1 C.2.1 q3 (fun q h => by rw [q5] at h; cases h) (by rw [q5]; exact fun h => by cases h) k2 k3 rfl hkv ⟨fun h => q6 (Or.inl h), Nat.not_le.mp (fun h => q6 (Or.inr h))⟩ g3 (fun q h => by cases h) hkv (va_asg _ _) rfl rfl hd q8
end RB
section RM
variable {G : Gv} {own : String} {cc : ByteArray} {nL : Nat} {ret : Option FieldType} {nm : String} {R : Room} {Z : Zt} {cells slots pc : Nat} {lv : List (Nat × Value)} {μ : Mm}
theorem mm_out (c : ClassId) (N h0 : Nat) : ∀ i : Nat, Jvm.Free.Multi.outerC c N h0 i = arrV c N (fun j => va_rf (if j < i then some (h0 + 1 + j) else none))
  | 0 => by
    show ({ cls := c, slots := Array.replicate N .null, vm := .none } : Cell) = _
    rw [arrV_new]
    congr 1
  | i + 1 => by
    show (Jvm.Free.Multi.outerC c N h0 i).setSlot i (.ref (h0 + 1 + i)) = _
    rw [mm_out c N h0 i, arrV_store]
    congr 1
    funext j
    by_cases hj : j = i
    · subst hj
      simp [updV, va_rf]
    · by_cases h2 : j < i
      · simp [updV, hj, h2, show j < i + 1 by omega]
      · simp [updV, hj, h2, show ¬ j < i + 1 by omega]
theorem r_mna {n k : Int32} {idx : Nat} {st : List Value} {r : Nat × Mm} (hx : nw_M n k μ = some r) (hcl : Cond.classLink own idx "[[J" ∈ lw_ok) (ha : Cond.arrayClass .long ∈ lw_ok) (hcs : cells + 13 ≤ R.cells ∧ slots + 12 ≤ R.slots) (hd : decode cc pc = .ok (.multianewarray idx 2, 4))
    (kk : Rn G own cc nL ret nm R Z (cells + 13) (slots + 12) (pc + 4) lv (.ref r.1 :: st) r.2) : Rn G own cc nL ret nm R Z cells slots pc lv (.int k :: .int n :: st) μ :=
  fun p l e s m args below meth c H locs ls C hS hL hl => by
    obtain ⟨⟨hn, hk⟩, hx⟩ := ite_p hx
    cases hx
    subst hn
    subst hk
    have hts := C.2.2.2.2.2.2.1
    intro T hT Xs
    have c12 : (12 : Int32).toNatClampNeg = 12 := by decide
    have c0 : (0 : Int32).toNatClampNeg = 0 := by decide
    obtain ⟨vm₁, cA, comp, hW, fA, fC, hO, hI, X', step⟩ := Xs.multianewarray2F (ty := .long) C.1 C.2.2.2.2.2.1 (hts _ hcl) C.2.2.2.2.2.2.2.2.2.2.2 (hts _ ha) (g := F0 m pc ls (.int 0 :: .int 12 :: st)) rfl (by rw [C.2.1]; exact hd) rfl (by decide) (by decide) (by decide) (by decide) (by decide) (by decide) (by decide) (by rw [c12]; omega) (by rw [c12, c0]; omega)
    rw [c12, c0] at X' step
    generalize hF : Jvm.Free.Multi.fill (T.setVm vm₁) cA comp 12 0 (defaultValue .long) 12 = F at X' step
    have hTh : (T.setVm vm₁).heap = H := hT
    obtain ⟨f1, f2, -, -⟩ := Jvm.Free.Multi.fill_facts (T.setVm vm₁) cA comp 12 0 (defaultValue .long) 12
    rw [hF, hTh] at f1 f2
    have hold : ∀ x : Nat, x < H.size → F.heap[x]? = H[x]? := fun x hx => by
      have := Jvm.Free.Multi.fill_old (T.setVm vm₁) cA comp 12 0 (defaultValue .long) (a := x) (by rw [hTh]; exact hx) 12
      rw [hF, hTh] at this
      exact this
    have hrow : ∀ j : Nat, j < 12 → F.heap[H.size + 1 + j]? = some (Jvm.Free.Multi.innerC comp 0 (defaultValue .long)) := fun j hj => by
      have := Jvm.Free.Multi.fill_inner (T.setVm vm₁) cA comp 12 0 (defaultValue .long) 12 j hj
      rw [hF, hTh] at this
      exact this
    rw [mm_out] at f2
    obtain ⟨g1, g2, g3, g4, g5, g6, g7⟩ := id hS
    have hA1 : ArrOfT s cA (.array .long) := fun N z => ⟨(fun k h => by cases h), (hO 0 0 0).1.2⟩
    have hA2 : ArrOfT s comp .long := fun N z => ⟨(fun k h => by cases h), (hI 0 (defaultValue .long)).1.2⟩
    have hin : Jvm.Free.Multi.innerC comp 0 (defaultValue .long) = arrV comp 0 (fun _ => .long 0) := by
      show ({ cls := comp, slots := Array.replicate 0 (defaultValue .long), vm := .none } : Cell) = _
      rw [arrV_new]
      rfl
    have eK : ∀ b, mm_K (mn_M μ) b = if b = H.size then (25, 12) else if H.size ≤ b ∧ b < H.size + 13 then (21, 0) else mm_K μ b := fun b => by rw [← g4]; rfl
    have eI : ∀ b, mm_I (mn_M μ) b = if H.size ≤ b ∧ b < H.size + 13 then (fun _ => 0) else mm_I μ b := fun b => by rw [← g4]; rfl
    have eL : ∀ b, mm_L (mn_M μ) b = if H.size ≤ b ∧ b < H.size + 13 then (fun _ => 0) else mm_L μ b := fun b => by rw [← g4]; rfl
    have eP : ∀ b, mm_P (mn_M μ) b = if b = H.size then (fun j => if j < 12 then some (H.size + 1 + j) else none) else if H.size ≤ b ∧ b < H.size + 13 then (fun _ => none) else mm_P μ b := fun b => by rw [← g4]; rfl
    have old : ∀ b, ¬ (H.size ≤ b ∧ b < H.size + 13) → mm_K (mn_M μ) b = mm_K μ b ∧ mm_I (mn_M μ) b = mm_I μ b ∧ mm_L (mn_M μ) b = mm_L μ b ∧ mm_P (mn_M μ) b = mm_P μ b := fun b hb => by
      rw [eK, eI, eL, eP]
      exact ⟨by rw [if_neg (by omega), if_neg hb], by rw [if_neg hb], by rw [if_neg hb], by rw [if_neg (by omega), if_neg hb]⟩
    have hS' : Sim G s (mn_M μ) F.heap := by
      refine ⟨fun b k1 k2 => ?_, fun b k1 k2 => ?_, fun b k1 => ?_, by show mm_N μ + 13 = _; rw [f1, g4], by rw [f1]; omega, g6, g7.kept (fun q hq _ => hold q hq)⟩
      · by_cases hb : H.size ≤ b ∧ b < H.size + 13
        · rw [eK] at k1 k2
          by_cases hb2 : b = H.size
          · rw [if_pos hb2] at k2
            exact absurd k2 (by decide)
          · rw [if_neg hb2, if_pos hb] at k2
            exact absurd k2 (by decide)
        · obtain ⟨o1, o2, o3, o4⟩ := old b hb
          rw [o1] at k1 k2
          rw [o1, o2, o3, o4]
          exact ⟨(g1 b k1 k2).1, (g1 b k1 k2).2.kept (hold b (g1 b k1 k2).2.lt)⟩
      · by_cases hb : H.size ≤ b ∧ b < H.size + 13
        · refine ⟨by omega, ?_⟩
          rw [eK, eI, eL, eP, if_pos hb]
          by_cases hb2 : b = H.size
          · rw [if_pos hb2, if_pos hb2, hb2]
            exact ⟨cA, hA1, fA, f2⟩
          · rw [if_neg hb2, if_pos hb, if_neg hb2, if_pos hb, if_pos hb]
            obtain ⟨j, hj⟩ : ∃ j, b = H.size + 1 + j := ⟨b - (H.size + 1), by omega⟩
            refine ⟨comp, hA2, fC, ?_⟩
            rw [hj, hrow j (by omega), hin]
            rfl
        · obtain ⟨o1, o2, o3, o4⟩ := old b hb
          rw [o1] at k1 k2
          rw [o1, o2, o3, o4]
          exact ⟨(g2 b k1 k2).1, (g2 b k1 k2).2.kept (hold b (g2 b k1 k2).2.lt)⟩
      · by_cases hb : H.size ≤ b ∧ b < H.size + 13
        · rw [eK] at k1
          by_cases hb2 : b = H.size
          · rw [if_pos hb2] at k1
            exact absurd k1 (by decide)
          · rw [if_neg hb2, if_pos hb] at k1
            exact absurd k1 (by decide)
        · obtain ⟨o1, o2, o3, o4⟩ := old b hb
          rw [o1] at k1
          rw [o1, o2]
          have h9 := (g3 b k1).1
          exact ⟨h9, (g3 b k1).2.kept (hold b (by omega))⟩
    have kk' := kk p l e s m args below meth c F.heap locs ls C hS' hL hl
    rw [g4] at kk'
    obtain ⟨t, a1, b1⟩ := kk' F rfl X'
    refine ⟨t, step t ?_, b1⟩
    have e : T.heap.size = H.size := by rw [hT]
    rw [e]
    exact a1
end RM
