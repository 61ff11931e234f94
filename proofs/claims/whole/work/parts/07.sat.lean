/-! ===== models: what is known of an optional answer; loops ===== -/
def Sat {α : Type} (x : Option α) (K : α → Prop) : Prop := ∃ a, x = some a ∧ K a
theorem Sat_bind {α β : Type} {x : Option α} {f : α → Option β} {K : β → Prop} (h : Sat (x.bind f) K) : ∃ a, x = some a ∧ Sat (f a) K := by
  obtain ⟨b, hb, hK⟩ := h
  cases x with
  | none => cases hb
  | some a => exact ⟨a, rfl, b, hb, hK⟩
theorem Sat_pos {α : Type} {c : Prop} [Decidable c] {x y : Option α} {K : α → Prop} (hc : c) (h : Sat (if c then x else y) K) : Sat x K := by
  rw [if_pos hc] at h
  exact h
theorem Sat_neg {α : Type} {c : Prop} [Decidable c] {x y : Option α} {K : α → Prop} (hc : ¬ c) (h : Sat (if c then x else y) K) : Sat y K := by
  rw [if_neg hc] at h
  exact h
theorem Sat_ifn {α : Type} {c : Prop} [Decidable c] {y : Option α} {K : α → Prop} (h : Sat (if c then none else y) K) : ¬ c ∧ Sat y K := by
  by_cases hc : c
  · rw [if_pos hc] at h
    obtain ⟨a, ha, -⟩ := h
    cases ha
  · exact ⟨hc, Sat_neg hc h⟩
theorem Sat_ifp {α : Type} {c : Prop} [Decidable c] {y : Option α} {K : α → Prop} (h : Sat (if c then y else none) K) : c ∧ Sat y K := by
  by_cases hc : c
  · exact ⟨hc, Sat_pos hc h⟩
  · rw [if_neg hc] at h
    obtain ⟨a, ha, -⟩ := h
    cases ha
theorem Sat_some {α : Type} {a : α} {K : α → Prop} (h : Sat (some a) K) : K a := by
  obtain ⟨b, hb, hK⟩ := h
  cases hb
  exact hK
theorem kd_of {α : Type} {c : Prop} [Decidable c] {x : Option α} {r : α} (h : (if c then x else none) = some r) : c := by
  by_cases hc : c
  · exact hc
  · rw [if_neg hc] at h
    cases h
def sm {α β : Type} {γ : Sort _} (f : α → γ) (g : β → γ) : α ⊕ β → γ
  | .inl a => f a
  | .inr b => g b
theorem Sat_inl {σ β : Type} {s : σ} {RR : σ → Prop} {KK : β → Prop} (h : Sat (some (.inl s)) (sm RR KK)) : RR s := by
  have h2 := Sat_some h
  exact h2
theorem Sat_inr {σ β : Type} {b : β} {RR : σ → Prop} {KK : β → Prop} (h : Sat (some (.inr b)) (sm RR KK)) : KK b := by
  have h2 := Sat_some h
  exact h2
/-- at most n turns of a loop -/
def whn {σ β : Type} (body : σ → Option (σ ⊕ β)) : Nat → σ → Option β
  | 0, _ => none
  | n + 1, s => (body s).bind (sm (whn body n) some)
theorem whn_succ {σ β : Type} (body : σ → Option (σ ⊕ β)) (n : Nat) : ∀ (s : σ) (b : β), whn body n s = some b → whn body (n + 1) s = some b := by
  induction n with
  | zero => intro s b h; cases h
  | succ n ih =>
    intro s b h
    show (body s).bind (sm (whn body (n + 1)) some) = some b
    have h : (body s).bind (sm (whn body n) some) = some b := h
    cases hx : body s with
    | none => rw [hx] at h; cases h
    | some y =>
      rw [hx] at h
      cases y with
      | inl s' => exact ih s' b h
      | inr b' => exact h
theorem whn_le {σ β : Type} (body : σ → Option (σ ⊕ β)) {n m : Nat} (hm : n ≤ m) {s : σ} {b : β} (h : whn body n s = some b) : whn body m s = some b := by
  induction m with
  | zero => rw [Nat.le_zero.mp hm] at h; exact h
  | succ m ih =>
    by_cases hn : n = m + 1
    · rw [← hn]; exact h
    · exact whn_succ body m s b (ih (by omega))
/-- a loop -/
noncomputable def whl {σ β : Type} (body : σ → Option (σ ⊕ β)) (s : σ) : Option β := by
  classical exact if h : ∃ b, ∃ n, whn body n s = some b then some h.choose else none
theorem whl_iff {σ β : Type} (body : σ → Option (σ ⊕ β)) (s : σ) (b : β) : whl body s = some b ↔ ∃ n, whn body n s = some b := by
  classical
  unfold whl
  constructor
  · intro h
    split at h
    · rename_i hx
      cases h
      exact hx.choose_spec
    · cases h
  · rintro ⟨n, h⟩
    have hx : ∃ b, ∃ n, whn body n s = some b := ⟨b, n, h⟩
    rw [dif_pos hx]
    obtain ⟨m, hm⟩ := hx.choose_spec
    have h1 := whn_le body (Nat.le_max_left n m) h
    have h2 := whn_le body (Nat.le_max_right n m) hm
    rw [h1] at h2
    cases h2
    congr 1
theorem whl_R {σ β : Type} {body : σ → Option (σ ⊕ β)} {RR : σ → Prop} {KK : β → Prop} {s0 : σ} (step : ∀ s, Sat (body s) (sm RR KK) → RR s) (h : Sat (whl body s0) KK) : RR s0 := by
  obtain ⟨b, hb, hK⟩ := h
  obtain ⟨n, hn⟩ := (whl_iff body s0 b).mp hb
  clear hb
  induction n generalizing s0 with
  | zero => cases hn
  | succ n ih =>
    have hn : (body s0).bind (sm (whn body n) some) = some b := hn
    cases hx : body s0 with
    | none => rw [hx] at hn; cases hn
    | some y =>
      rw [hx] at hn
      refine step s0 ⟨y, hx, ?_⟩
      cases y with
      | inl s' => exact ih hn
      | inr b' => cases hn; exact hK
/-- one turn -/
theorem whl_step {σ β : Type} (body : σ → Option (σ ⊕ β)) (s : σ) : whl body s = (body s).bind (sm (whl body) some) := by
  cases hx : body s with
  | none =>
    cases hw : whl body s with
    | none => rfl
    | some b =>
      obtain ⟨n, hn⟩ := (whl_iff body s b).mp hw
      cases n with
      | zero => cases hn
      | succ n =>
        have hn : (body s).bind (sm (whn body n) some) = some b := hn
        rw [hx] at hn
        cases hn
  | some y =>
    cases y with
    | inl s' =>
      show whl body s = whl body s'
      have key : ∀ b, whl body s = some b ↔ whl body s' = some b := by
        intro b
        rw [whl_iff, whl_iff]
        constructor
        · rintro ⟨n, hn⟩
          cases n with
          | zero => cases hn
          | succ n =>
            have hn : (body s).bind (sm (whn body n) some) = some b := hn
            rw [hx] at hn
            exact ⟨n, hn⟩
        · rintro ⟨n, hn⟩
          refine ⟨n + 1, ?_⟩
          show (body s).bind (sm (whn body n) some) = some b
          rw [hx]
          exact hn
      cases h1 : whl body s with
      | none =>
        cases h2 : whl body s' with
        | none => rfl
        | some b => rw [(key b).mpr h2] at h1; cases h1
      | some b => exact ((key b).mp h1).symm
    | inr b =>
      show whl body s = some b
      rw [whl_iff]
      refine ⟨1, ?_⟩
      show (body s).bind (sm (whn body 0) some) = some b
      rw [hx]
      rfl
section RX
variable {G : Gv} {own : String} {cc : ByteArray} {nL : Nat} {ret : Option FieldType} {nm : String} {R : Room} {Z : Zt} {cells slots pc : Nat} {lv : List (Nat × Value)} {st : List Value} {μ : Mm}
theorem r_topi {x y : Int32} (h : x = y) (k : Rn G own cc nL ret nm R Z cells slots pc lv (.int y :: st) μ) : Rn G own cc nL ret nm R Z cells slots pc lv (.int x :: st) μ := h ▸ k
theorem r_topl {x y : Int64} (h : x = y) (k : Rn G own cc nL ret nm R Z cells slots pc lv (.long y :: st) μ) : Rn G own cc nL ret nm R Z cells slots pc lv (.long x :: st) μ := h ▸ k
/-- calls of methods that make nothing -/
theorem r_cV {y : MethodName} {cc' : ByteArray} {nL' d' n idx b t : Nat} {ret' : Option FieldType} (As st : List Value) {stk : List Value} {rv : Option Value} {μ1 : Mm} (hM : Mt G y cc' nL' ret' d' 0 0 (.ref b :: As) μ (fun v μ' => v = rv ∧ μ' = μ1)) (hc : Ck y cc' nL' ret' n) (hlk : Lk own idx y) (hin : Cond.instanceMethod y ∈ lw_ok) (hse : Cond.selects y.cls y y ∈ lw_ok)
    (hK : (mm_K μ b).1 = t) (ht : cnm t = y.cls ∧ 1 ≤ t ∧ t ≤ 12) (hn : As.length = n) (hst : stk = As.reverse ++ .ref b :: st) (hW : (st.map fun v => v.category).sum ≤ 8) (hR : d' + 1 ≤ R.frames ∧ 64 * d' + 64 ≤ R.locals) (hcs : cells ≤ R.cells ∧ slots ≤ R.slots) (hd : decode cc pc = .ok (.invokevirtual idx, 3))
    (kk : Rn G own cc nL ret nm R Z cells slots (pc + 3) lv (rv.toList ++ st) μ1) : Rn G own cc nL ret nm R Z cells slots pc lv stk μ :=
  r_callV As hM hc hlk hin hse hK ht hn hst hW hR hcs hd (fun v μ' h => by obtain ⟨rfl, rfl⟩ := h; exact kk)
theorem r_cS {y : MethodName} {cc' : ByteArray} {nL' d' n idx : Nat} {ret' : Option FieldType} (As st : List Value) {stk : List Value} {rv : Option Value} {μ1 : Mm} (hM : Mt G y cc' nL' ret' d' 0 0 As μ (fun v μ' => v = rv ∧ μ' = μ1)) (hc : Ck y cc' nL' ret' n) (hlk : Lk own idx y) (hstt : Cond.static y ∈ lw_ok)
    (hn : As.length = n) (hst : stk = As.reverse ++ st) (hW : (st.map fun v => v.category).sum ≤ 8) (hR : d' + 1 ≤ R.frames ∧ 64 * d' + 64 ≤ R.locals) (hcs : cells ≤ R.cells ∧ slots ≤ R.slots) (hd : decode cc pc = .ok (.invokestatic idx, 3))
    (kk : Rn G own cc nL ret nm R Z cells slots (pc + 3) lv (rv.toList ++ st) μ1) : Rn G own cc nL ret nm R Z cells slots pc lv stk μ :=
  r_callS As hM hc hlk hstt hn hst hW hR hcs hd (fun v μ' h => by obtain ⟨rfl, rfl⟩ := h; exact kk)
theorem r_goal {lv' : List (Nat × Value)} {st' : List Value} {pc' : Nat} (h1 : pc = pc') (h2 : lv = lv') (h3 : st = st') (k : Rn G own cc nL ret nm R Z cells slots pc' lv' st' μ) : Rn G own cc nL ret nm R Z cells slots pc lv st μ := by
  subst h1; subst h2; subst h3; exact k
end RX
theorem Sat_bindK {α β : Type} {x : Option α} {f : α → Option β} {K : β → Prop} (h : Sat (x.bind f) K) : Sat x (fun a => Sat (f a) K) := Sat_bind h
theorem Sat_eq {α : Type} {a r : α} (h : Sat (some a) (fun x => x = r)) : a = r := by
  have h2 := Sat_some h
  exact h2
theorem whl_K {σ β : Type} {body : σ → Option (σ ⊕ β)} {RR : σ → Prop} {KK : β → Prop} {s0 : σ} (step : ∀ (s : σ) (K : σ ⊕ β → Prop), (∀ s', K (.inl s') → RR s') → (∀ b, K (.inr b) → KK b) → Sat (body s) K → RR s) (h : Sat (whl body s0) KK) : RR s0 :=
  whl_R (fun s h => step s (sm RR KK) (fun _ h => h) (fun _ h => h) h) h
theorem iinc_v {x c v : Int32} {n : Int} (h : some (x + c) = some v) (hc : Int32.ofInt n = c) : x + Int32.ofInt n = v := by rw [hc]; exact Option.some.inj h
theorem rm_f {a d : Nat} (h : a + 1 ≤ d) : a + 1 ≤ (rmd d 0 0).frames := h
theorem rm_l {a d : Nat} (h : a + 1 ≤ d) : 64 * a + 64 ≤ (rmd d 0 0).locals := by show 64 * a + 64 ≤ 64 * d; omega
