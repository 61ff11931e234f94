/-! ===== rows for fields and arrays ===== -/
/-- the entry idx of own's pool is field k of kind t -/
def Fk (own : String) (idx t k : Nat) : Prop := k < cfn t ∧ 1 ≤ t ∧ t ≤ 12 ∧ (Cond.fieldLink own idx (cft t k).1 (cft t k).2.1 (cft t k).2.2.1 ∈ lw_ok ∨ ∃ host, Cond.fieldLinkNest own idx (cft t k).1 (cft t k).2.1 (cft t k).2.2.1 host ∈ lw_ns)
def is_i (ty : FieldType) : Bool := match ty with
  | .long => false | .object _ => false | .array _ => false | .float => false | .double => false | _ => true
def is_r (ty : FieldType) : Bool := match ty with
  | .object _ => true | .array _ => true | _ => false
theorem fv_i {ty : FieldType} (h : is_i ty = true) (i : Int32) (l : Int64) (r : Option Nat) : fv ty i l r = .int i := by
  cases ty <;> first | rfl | (simp [is_i] at h)
theorem fv_r {ty : FieldType} (h : is_r ty = true) (i : Int32) (l : Int64) (r : Option Nat) : fv ty i l r = va_rf r := by
  cases ty <;> first | rfl | (simp [is_r] at h)
theorem u1_s {α : Type} (f : Nat → α) (k : Nat) (v : α) : u1 f k v k = v := if_pos rfl
theorem u1_n {α : Type} (f : Nat → α) {k j : Nat} (v : α) (h : j ≠ k) : u1 f k v j = f j := if_neg h
theorem u1_d {α : Type} (f : Nat → α) (k j : Nat) (v : α) : u1 f k v j = if j = k then v else f j := rfl
section RH
variable {G : Gv} {own : String} {cc : ByteArray} {nL : Nat} {ret : Option FieldType} {nm : String} {R : Room} {Z : Zt} {cells slots pc : Nat} {lv : List (Nat × Value)} {st : List Value} {μ : Mm}
theorem r_getV {t k idx a : Nat} {v : Value} (hf : Fk own idx t k) (hK : (mm_K μ a).1 = t) (hv : fv (cty t k) (mm_I μ a k) (mm_L μ a k) (mm_P μ a k) = v) (hd : decode cc pc = .ok (.getfield idx, 3)) (kk : Rn G own cc nL ret nm R Z cells slots (pc + 3) lv (v :: st) μ) : Rn G own cc nL ret nm R Z cells slots pc lv (.ref a :: st) μ :=
  fun p l e s m args below meth c H locs ls C hS hL hl => by
    obtain ⟨hk, h1, h2, hlink⟩ := hf
    subst hK
    obtain ⟨-, cC, iS, ⟨hSl, hfc, kC, hkC, hkind⟩, cell, q1, q2, q3, q4⟩ := hS.1 a h1 h2
    obtain ⟨cf, kf, fi, f, hi, hsl⟩ := hSl k hk
    have hst := (u_facts hfc hkC (u_lays C.2.2.2.2.2.2.1 (c_in _) hk) hi).1
    have hv' : cell.slots[f.slot]? = some v := by rw [hsl]; exact (q4 k hk).trans (congrArg some hv)
    have hun : cell.vm ≠ .unknown := by rw [q3]; exact fun h => by cases h
    rcases hlink with hlink | ⟨host, hlink⟩
    · exact W.getf C.1 C.2.1 C.2.2.2.2.2.1 (C.2.2.2.2.2.2.1 _ hlink) hi hst q1 hun hv' rfl rfl hd (kk p l e s m args below meth c H locs ls C hS hL hl)
    · exact va_Wgetf C.1 C.2.1 C.2.2.2.2.2.1 (va_Nw.use rfl (C.2.2.2.2.2.2.2.2.2.1 _ hlink)) hi hst q1 hun hv' rfl rfl hd (kk p l e s m args below meth c H locs ls C hS hL hl)
theorem r_getI {t k idx a : Nat} {x : Int32} (hf : Fk own idx t k) (hty : is_i (cty t k) = true) (hx : gf_I t k a μ = some x) (hd : decode cc pc = .ok (.getfield idx, 3)) (kk : Rn G own cc nL ret nm R Z cells slots (pc + 3) lv (.int x :: st) μ) : Rn G own cc nL ret nm R Z cells slots pc lv (.ref a :: st) μ := by
  unfold gf_I at hx
  split at hx
  · rename_i hK
    cases hx
    exact r_getV hf hK (fv_i hty _ _ _) hd kk
  · cases hx
theorem r_getL {t k idx a : Nat} {x : Int64} (hf : Fk own idx t k) (hty : cty t k = .long) (hx : gf_L t k a μ = some x) (hd : decode cc pc = .ok (.getfield idx, 3)) (kk : Rn G own cc nL ret nm R Z cells slots (pc + 3) lv (.long x :: st) μ) : Rn G own cc nL ret nm R Z cells slots pc lv (.ref a :: st) μ := by
  unfold gf_L at hx
  split at hx
  · rename_i hK
    cases hx
    exact r_getV hf hK (by rw [hty]; rfl) hd kk
  · cases hx
theorem r_getP {t k idx a : Nat} {x : Nat} (hf : Fk own idx t k) (hty : is_r (cty t k) = true) (hx : gf_P t k a μ = some x) (hd : decode cc pc = .ok (.getfield idx, 3)) (kk : Rn G own cc nL ret nm R Z cells slots (pc + 3) lv (.ref x :: st) μ) : Rn G own cc nL ret nm R Z cells slots pc lv (.ref a :: st) μ := by
  unfold gf_P at hx
  split at hx
  · rename_i hK
    exact r_getV hf hK (by rw [fv_r hty, hx]; rfl) hd kk
  · cases hx
theorem ob_apart {s : State} {args : Array Value} {t : Nat} {cC : ClassId} {iS : Nat → Nat} (hts : ∀ w ∈ lw_ok, w.before args s = true) (hS : ∀ k, k < cfn t → SlotIs s (cft t k).1 (cft t k).2.1 (cft t k).2.2.1 (iS k)) : ∀ x y, x < cfn t → y < cfn t → x ≠ y → iS x ≠ iS y := by
  intro x y hx hy hne
  obtain ⟨_, _, _, fa, hia, ea⟩ := hS x hx
  obtain ⟨_, _, _, fb, hib, eb⟩ := hS y hy
  rw [← ea, ← eb]
  refine u_apart (u_lays hts (c_in t) hx) (u_lays hts (c_in t) hy) hia hib ?_
  rw [(State.fieldFound?_type hia (c_ty t x hx)).1, (State.fieldFound?_type hib (c_ty t y hy)).1]
  exact c_nm t x hx y hy hne
/-- a field is written: of any kind; a final one in its own constructor -/
theorem r_putV {t k idx a : Nat} {v : Value} {μ' : Mm} (hf : Fk own idx t k) (hfin : (cft t k).2.2.2 = false ∨ ((cft t k).2.2.2 = true ∧ nm = "<init>" ∧ (cft t k).1 = own ∧ Cond.fieldLink own idx (cft t k).1 (cft t k).2.1 (cft t k).2.2.1 ∈ lw_ok)) (hK : (mm_K μ a).1 = t)
    (hn : narrow (cty t k) v = v) (hfit : fits (cty t k) v = true) (eK : mm_K μ' = mm_K μ) (eS : mm_S μ' = mm_S μ) (eN : mm_N μ' = mm_N μ) (eI : ∀ b, b ≠ a → mm_I μ' b = mm_I μ b) (eL : ∀ b, b ≠ a → mm_L μ' b = mm_L μ b) (eP : ∀ b, b ≠ a → mm_P μ' b = mm_P μ b)
    (eV : ∀ j, fv (cty t j) (mm_I μ' a j) (mm_L μ' a j) (mm_P μ' a j) = if j = k then v else fv (cty t j) (mm_I μ a j) (mm_L μ a j) (mm_P μ a j)) (hd : decode cc pc = .ok (.putfield idx, 3))
    (kk : Rn G own cc nL ret nm R Z cells slots (pc + 3) lv st μ') : Rn G own cc nL ret nm R Z cells slots pc lv (v :: .ref a :: st) μ :=
  fun p l e s m args below meth c H locs ls C hS hL hl => by
    obtain ⟨hk, h1, h2, hlink⟩ := hf
    subst hK
    obtain ⟨ha, cC, iS, hKn, cell, q1, q2, q3, q4⟩ := hS.1 a h1 h2
    have hKn0 := hKn
    obtain ⟨hSl, hfc, kC, hkC, hkind⟩ := hKn
    have hap := ob_apart (cC := cC) C.2.2.2.2.2.2.1 hSl
    obtain ⟨cf, kf, fi, f, hi, hsl⟩ := hSl k hk
    have hst := (u_facts hfc hkC (u_lays C.2.2.2.2.2.2.1 (c_in _) hk) hi).1
    have hlay := C.2.2.2.2.2.2.1 _ (c_in _ _ (u_in_lay hk))
    have done : ∀ H' : Heap, H'[a]? = some (cell.setSlot f.slot v) → H'.size = H.size → (∀ q, q ≠ a → H'[q]? = H[q]?) → W p l e R s m args below meth c H' (locs ++ [⟨a, f.slot⟩]) cells slots (Z below args s) (F0 m (pc + 3) ls st) := by
      intro H' e1 e2 e3
      rw [hsl] at e1
      refine kk p l e s m args below meth c H' _ ls C ?_ ?_ hl
      · refine hS.one ha e2 e3 eK eS eN eI eL eP (fun _ _ => ⟨cC, iS, hKn0, t_OB.to (V := updV (fun j => fv (cty (mm_K μ a).1 j) (mm_I μ a j) (mm_L μ a j) (mm_P μ a j)) k v) ⟨_, e1, q2, q3, t_set q4 hap hk v⟩ (fun j _ => ?_)⟩) (fun h9 _ => by omega)
        rw [eV j]
        rfl
      · intro q hq
        rcases List.mem_append.mp hq with h | h
        · exact hL q h
        · rw [List.mem_singleton.mp h]
          exact ha
    rcases hfin with hfin | ⟨hfin, hnm, hdecl, hlk⟩
    · unfold u_lay at hlay
      rw [if_neg (by rw [hfin]; decide)] at hlay
      have h6 := u_store hfc hkC hkind hlay hi (c_ty _ k hk) hn hfit
      rcases hlink with hlink | ⟨host, hlink⟩
      · exact W.putK C.1 C.2.1 (f := f) ⟨C.2.2.2.2.2.1, C.2.2.2.2.2.2.1 _ hlink, ⟨_, _, _, hi⟩, hst⟩ (by rw [q2]; exact h6) q1 q3 (by rw [hsl]; exact k2_hasslot (q4 k hk)) rfl rfl hd done
      · exact va_WputK C.1 C.2.1 (f := f) C.2.2.2.2.2.1 (va_Nw.use rfl (C.2.2.2.2.2.2.2.2.2.1 _ hlink)) hi hst (by rw [q2]; exact h6) q1 q3 (by rw [hsl]; exact k2_hasslot (q4 k hk)) rfl rfl hd done
    · unfold u_lay at hlay
      rw [if_pos hfin] at hlay
      have hcf : m.cls = cf := by
        obtain ⟨_, _, c', _, _, _, -, -, hf', -, -, -, hown2, -⟩ := Cond.laysFinal_spec hlay
        have e1 : c' = cf := by have := hi.symm.trans hf'; simp at this; exact this.1.symm
        rw [hdecl] at hown2
        rw [← e1]; exact Option.some.inj (C.2.2.2.2.2.1.symm.trans hown2)
      have h6 := u_fits hfc hkC hkind (Or.inr hlay) hi (c_ty _ k hk) hn hfit
      exact W.putFinK C.1 C.2.1 C.2.2.2.2.2.1 (C.2.2.2.2.2.2.1 _ hlk) hi hst hcf (C.2.2.2.2.2.2.2.1.trans hnm) (by rw [q2]; exact h6) q1 q3 (by rw [hsl]; exact k2_hasslot (q4 k hk)) rfl rfl hd done
theorem nar_i {ty : FieldType} (h : ty = .int) (x : Int32) : narrow ty (.int x) = .int x ∧ fits ty (.int x) = true := by
  subst h
  exact ⟨rfl, rfl⟩
theorem nar_z {x : Int32} (h : x = 0 ∨ x = 1) : narrow .boolean (.int x) = .int x ∧ fits .boolean (.int x) = true := by
  rcases h with rfl | rfl <;> exact ⟨by decide, by decide⟩
theorem r_putI {t k idx a : Nat} {x : Int32} {μ' : Mm} (hf : Fk own idx t k) (hfin : (cft t k).2.2.2 = false) (hty : cty t k = .int) (hx : pf_I t k a x μ = some μ') (hd : decode cc pc = .ok (.putfield idx, 3)) (kk : Rn G own cc nL ret nm R Z cells slots (pc + 3) lv st μ') : Rn G own cc nL ret nm R Z cells slots pc lv (.int x :: .ref a :: st) μ := by
  unfold pf_I at hx
  split at hx
  · rename_i hK
    cases hx
    refine r_putV (μ' := ms_I μ a k x) hf (Or.inl hfin) hK (nar_i hty x).1 (nar_i hty x).2 rfl rfl rfl (fun b hb => u1_n _ _ hb) (fun _ _ => rfl) (fun _ _ => rfl) (fun j => ?_) hd kk
    show fv (cty t j) (u1 μ.1 a (u1 (μ.1 a) k x) a j) _ _ = _
    rw [u1_s, u1_d]
    by_cases hj : j = k
    · rw [if_pos hj, if_pos hj, hj, hty]; rfl
    · rw [if_neg hj, if_neg hj]; rfl
  · cases hx
theorem r_putZ {t k idx a : Nat} {x : Int32} {μ' : Mm} (hf : Fk own idx t k) (hfin : (cft t k).2.2.2 = false) (hty : cty t k = .boolean) (hx : pf_Z t k a x μ = some μ') (hd : decode cc pc = .ok (.putfield idx, 3)) (kk : Rn G own cc nL ret nm R Z cells slots (pc + 3) lv st μ') : Rn G own cc nL ret nm R Z cells slots pc lv (.int x :: .ref a :: st) μ := by
  unfold pf_Z at hx
  split at hx
  · rename_i hK
    cases hx
    refine r_putV (μ' := ms_I μ a k x) hf (Or.inl hfin) hK.1 (by rw [hty]; exact (nar_z hK.2).1) (by rw [hty]; exact (nar_z hK.2).2) rfl rfl rfl (fun b hb => u1_n _ _ hb) (fun _ _ => rfl) (fun _ _ => rfl) (fun j => ?_) hd kk
    show fv (cty t j) (u1 μ.1 a (u1 (μ.1 a) k x) a j) _ _ = _
    rw [u1_s, u1_d]
    by_cases hj : j = k
    · rw [if_pos hj, if_pos hj, hj, hty]; rfl
    · rw [if_neg hj, if_neg hj]; rfl
  · cases hx
theorem r_putL {t k idx a : Nat} {x : Int64} {μ' : Mm} (hf : Fk own idx t k) (hfin : (cft t k).2.2.2 = false) (hty : cty t k = .long) (hx : pf_L t k a x μ = some μ') (hd : decode cc pc = .ok (.putfield idx, 3)) (kk : Rn G own cc nL ret nm R Z cells slots (pc + 3) lv st μ') : Rn G own cc nL ret nm R Z cells slots pc lv (.long x :: .ref a :: st) μ := by
  unfold pf_L at hx
  split at hx
  · rename_i hK
    cases hx
    refine r_putV (μ' := ms_L μ a k x) hf (Or.inl hfin) hK (by rw [hty]; rfl) (by rw [hty]; rfl) rfl rfl rfl (fun _ _ => rfl) (fun b hb => u1_n _ _ hb) (fun _ _ => rfl) (fun j => ?_) hd kk
    show fv (cty t j) _ (u1 μ.2.1 a (u1 (μ.2.1 a) k x) a j) _ = _
    rw [u1_s, u1_d]
    by_cases hj : j = k
    · rw [if_pos hj, if_pos hj, hj, hty]; rfl
    · rw [if_neg hj, if_neg hj]; rfl
  · cases hx
theorem r_putP {t k idx a : Nat} {x : Nat} {μ' : Mm} (hf : Fk own idx t k) (hfin : (cft t k).2.2.2 = false ∨ ((cft t k).2.2.2 = true ∧ nm = "<init>" ∧ (cft t k).1 = own ∧ Cond.fieldLink own idx (cft t k).1 (cft t k).2.1 (cft t k).2.2.1 ∈ lw_ok)) (hty : is_r (cty t k) = true) (hx : pf_P t k a x μ = some μ') (hd : decode cc pc = .ok (.putfield idx, 3)) (kk : Rn G own cc nL ret nm R Z cells slots (pc + 3) lv st μ') : Rn G own cc nL ret nm R Z cells slots pc lv (.ref x :: .ref a :: st) μ := by
  unfold pf_P at hx
  split at hx
  · rename_i hK
    cases hx
    refine r_putV (μ' := ms_P μ a k (some x)) hf hfin hK (by cases hc : cty t k <;> first | rfl | (rw [hc] at hty; simp [is_r] at hty)) (by cases hc : cty t k <;> first | rfl | (rw [hc] at hty; simp [is_r] at hty)) rfl rfl rfl (fun _ _ => rfl) (fun _ _ => rfl) (fun b hb => u1_n _ _ hb) (fun j => ?_) hd kk
    show fv (cty t j) _ _ (u1 μ.2.2.1 a (u1 (μ.2.2.1 a) k (some x)) a j) = _
    rw [u1_s, u1_d]
    by_cases hj : j = k
    · rw [if_pos hj, if_pos hj, hj, fv_r hty]; rfl
    · rw [if_neg hj, if_neg hj]; rfl
  · cases hx
theorem ix_in {i : Int32} {n : Nat} (h : 0 ≤ i.toInt ∧ i.toInt < n) : vp_in i n := vp_in_iff.mpr h
theorem ix_lt {i : Int32} {n : Nat} (h : 0 ≤ i.toInt ∧ i.toInt < n) : i.toNatClampNeg < n := Nat.not_le.mp fun q => ix_in h (Or.inr q)
theorem r_ald {t a : Nat} {i : Int32} {v : Value} (h20 : 20 ≤ t ∧ t ≤ 25) (hK : (mm_K μ a).1 = t) (hin : 0 ≤ i.toInt ∧ i.toInt < (mm_K μ a).2) (hv : fv (aty t) (mm_I μ a i.toNatClampNeg) (mm_L μ a i.toNatClampNeg) (mm_P μ a i.toNatClampNeg) = v)
    (hrow : ∀ (p : Program) (l : Launch) (e : Env) (s : State) (m : MethodId) (args : Array Value) (below : List Frame) (meth : Method) (c : Code) (H : Heap) (locs : List Loc) (ls : Array Slot) (cell : Cell), p.tables.exec = Jvm.exec → c.code = cc → H[a]? = some cell → s.isArrayOf cell (aty t) → cell.vm ≠ .unknown → ¬ (i < 0 ∨ cell.slots.size ≤ i.toNatClampNeg) → cell.slots[i.toNatClampNeg]? = some v → W p l e R s m args below meth c H locs cells slots (Z below args s) (F0 m (pc + 1) ls (v :: st)) → W p l e R s m args below meth c H locs cells slots (Z below args s) (F0 m pc ls (.int i :: .ref a :: st)))
    (kk : Rn G own cc nL ret nm R Z cells slots (pc + 1) lv (v :: st) μ) : Rn G own cc nL ret nm R Z cells slots pc lv (.int i :: .ref a :: st) μ :=
  fun p l e s m args below meth c H locs ls C hS hL hl => by
    subst hK
    obtain ⟨-, cA, h1, h2, h3⟩ := hS.2.1 a h20.1 h20.2
    refine hrow p l e s m args below meth c H locs ls _ C.1 C.2.1 h3 (h1 _ _) (fun h => by cases h) ?_ ?_ (kk p l e s m args below meth c H locs ls C hS hL hl)
    · rw [arrV_size]; exact ix_in hin
    · rw [arrV_read _ _ (ix_lt hin), hv]
theorem r_iaload {a : Nat} {i x : Int32} (hx : ga_I a i μ = some x) (hd : decode cc pc = .ok (.iaload, 1)) (kk : Rn G own cc nL ret nm R Z cells slots (pc + 1) lv (.int x :: st) μ) : Rn G own cc nL ret nm R Z cells slots pc lv (.int i :: .ref a :: st) μ := by
  unfold ga_I at hx
  split at hx
  · rename_i hK
    cases hx
    exact r_ald (t := 20) ⟨by decide, by decide⟩ hK.1 hK.2 rfl (fun p l e s m args below meth c H locs ls cell q1 q2 q3 q4 q5 q6 q7 q8 => W.iald q1 q2 q3 q4 q5 q6 q7 rfl rfl hd q8) kk
  · cases hx
theorem r_laload {a : Nat} {i : Int32} {x : Int64} (hx : ga_L a i μ = some x) (hd : decode cc pc = .ok (.laload, 1)) (kk : Rn G own cc nL ret nm R Z cells slots (pc + 1) lv (.long x :: st) μ) : Rn G own cc nL ret nm R Z cells slots pc lv (.int i :: .ref a :: st) μ := by
  unfold ga_L at hx
  split at hx
  · rename_i hK
    cases hx
    exact r_ald (t := 21) ⟨by decide, by decide⟩ hK.1 hK.2 rfl (fun p l e s m args below meth c H locs ls cell q1 q2 q3 q4 q5 q6 q7 q8 => W.lald q1 q2 q3 q4 q5 q6 q7 rfl rfl hd q8) kk
  · cases hx
theorem r_baload {a : Nat} {i x : Int32} (hx : ga_B a i μ = some x) (hd : decode cc pc = .ok (.baload, 1)) (kk : Rn G own cc nL ret nm R Z cells slots (pc + 1) lv (.int x :: st) μ) : Rn G own cc nL ret nm R Z cells slots pc lv (.int i :: .ref a :: st) μ := by
  unfold ga_B at hx
  split at hx
  · rename_i hK
    cases hx
    exact r_ald (t := 22) ⟨by decide, by decide⟩ hK.1 hK.2 rfl (fun p l e s m args below meth c H locs ls cell q1 q2 q3 q4 q5 q6 q7 q8 => W.bald q1 q2 q3 q4 q5 q6 q7 rfl rfl hd q8) kk
  · cases hx
theorem r_zaload {a : Nat} {i x : Int32} (hx : ga_Z a i μ = some x) (hd : decode cc pc = .ok (.baload, 1)) (kk : Rn G own cc nL ret nm R Z cells slots (pc + 1) lv (.int x :: st) μ) : Rn G own cc nL ret nm R Z cells slots pc lv (.int i :: .ref a :: st) μ := by
  unfold ga_Z at hx
  split at hx
  · rename_i hK
    cases hx
    exact r_ald (t := 23) ⟨by decide, by decide⟩ hK.1 hK.2 rfl (fun p l e s m args below meth c H locs ls cell q1 q2 q3 q4 q5 q6 q7 q8 => W.zald q1 q2 q3 q4 q5 q6 q7 rfl rfl hd q8) kk
  · cases hx
theorem r_aaload {t a : Nat} {i : Int32} {x : Nat} (ht : t = 24 ∨ t = 25) (hx : ga_P t a i μ = some x) (hd : decode cc pc = .ok (.aaload, 1)) (kk : Rn G own cc nL ret nm R Z cells slots (pc + 1) lv (.ref x :: st) μ) : Rn G own cc nL ret nm R Z cells slots pc lv (.int i :: .ref a :: st) μ := by
  unfold ga_P at hx
  split at hx
  · rename_i hK
    refine r_ald (t := t) ⟨by omega, by omega⟩ hK.1 hK.2 ?_ (fun p l e s m args below meth c H locs ls cell q1 q2 q3 q4 q5 q6 q7 q8 => W.aald q1 q2 q3 q4 (by rcases ht with rfl | rfl <;> rfl) q5 q6 q7 rfl rfl hd q8) kk
    rw [hx]
    rcases ht with rfl | rfl <;> rfl
  · cases hx
theorem r_len {a : Nat} {x : Int32} (hx : ga_len a μ = some x) (hd : decode cc pc = .ok (.arraylength, 1)) (kk : Rn G own cc nL ret nm R Z cells slots (pc + 1) lv (.int x :: st) μ) : Rn G own cc nL ret nm R Z cells slots pc lv (.ref a :: st) μ :=
  fun p l e s m args below meth c H locs ls C hS hL hl => by
    unfold ga_len at hx
    split at hx
    · rename_i hK
      cases hx
      obtain ⟨-, cA, h1, h2, h3⟩ := hS.2.1 a hK.1 hK.2
      exact W.alen C.1 C.2.1 h3 (h1 _ _) (by rw [arrV_size]; rfl) rfl rfl hd (kk p l e s m args below meth c H locs ls C hS hL hl)
    · cases hx
theorem r_ast {t a : Nat} {i : Int32} {v w : Value} {μ' : Mm} (h20 : 20 ≤ t ∧ t ≤ 25) (hK : (mm_K μ a).1 = t) (hin : 0 ≤ i.toInt ∧ i.toInt < (mm_K μ a).2)
    (eK : mm_K μ' = mm_K μ) (eS : mm_S μ' = mm_S μ) (eN : mm_N μ' = mm_N μ) (eI : ∀ b, b ≠ a → mm_I μ' b = mm_I μ b) (eL : ∀ b, b ≠ a → mm_L μ' b = mm_L μ b) (eP : ∀ b, b ≠ a → mm_P μ' b = mm_P μ b)
    (eV : ∀ j, fv (aty t) (mm_I μ' a j) (mm_L μ' a j) (mm_P μ' a j) = if j = i.toNatClampNeg then w else fv (aty t) (mm_I μ a j) (mm_L μ a j) (mm_P μ a j))
    (hrow : ∀ (p : Program) (l : Launch) (e : Env) (s : State) (m : MethodId) (args : Array Value) (below : List Frame) (meth : Method) (c : Code) (H : Heap) (locs : List Loc) (ls : Array Slot) (cell : Cell), Cx G own cc nL ret nm p s m args meth c → Sim G s μ H → H[a]? = some cell → s.isArrayOf cell (aty t) → va_RA s cell.cls (aty t) → cell.vm = .none → ¬ (i < 0 ∨ cell.slots.size ≤ i.toNatClampNeg) → (∀ H' : Heap, H'[a]? = some (cell.setSlot i.toNatClampNeg w) → H'.size = H.size → (∀ q, q ≠ a → H'[q]? = H[q]?) → W p l e R s m args below meth c H' (locs ++ [⟨a, i.toNatClampNeg⟩]) cells slots (Z below args s) (F0 m (pc + 1) ls st)) → W p l e R s m args below meth c H locs cells slots (Z below args s) (F0 m pc ls (v :: .int i :: .ref a :: st)))
    (kk : Rn G own cc nL ret nm R Z cells slots (pc + 1) lv st μ') : Rn G own cc nL ret nm R Z cells slots pc lv (v :: .int i :: .ref a :: st) μ :=
  fun p l e s m args below meth c H locs ls C hS hL hl => by
    subst hK
    obtain ⟨ha, cA, h1, h2, h3⟩ := hS.2.1 a h20.1 h20.2
    refine hrow p l e s m args below meth c H locs ls _ C hS h3 (h1 _ _) h2 rfl ?_ (fun H' e1 e2 e3 => ?_)
    · rw [arrV_size]; exact ix_in hin
    · refine kk p l e s m args below meth c H' _ ls C ?_ ?_ hl
      · refine hS.one ha e2 e3 eK eS eN eI eL eP (fun _ h9 => by omega) (fun _ _ => ⟨cA, h1, h2, ?_⟩)
        rw [e1, arrV_store]
        congr 2
        funext j
        rw [eV j]
        rfl
      · intro q hq
        rcases List.mem_append.mp hq with h | h
        · exact hL q h
        · rw [List.mem_singleton.mp h]
          exact ha
theorem r_iastore {a : Nat} {i x : Int32} {μ' : Mm} (hx : pa_I a i x μ = some μ') (hd : decode cc pc = .ok (.iastore, 1)) (kk : Rn G own cc nL ret nm R Z cells slots (pc + 1) lv st μ') : Rn G own cc nL ret nm R Z cells slots pc lv (.int x :: .int i :: .ref a :: st) μ := by
  unfold pa_I at hx
  split at hx
  · rename_i hK
    cases hx
    refine r_ast (μ' := ms_I μ a i.toNatClampNeg x) (t := 20) (w := .int x) ⟨by decide, by decide⟩ hK.1 hK.2 rfl rfl rfl (fun b hb => u1_n _ _ hb) (fun _ _ => rfl) (fun _ _ => rfl) (fun j => ?_) (fun p l e s m args below meth c H locs ls cell C _ q3 q4 _ q5 q6 q8 => W.iast C.1 C.2.1 q3 q4 (by rw [q5]; exact fun h => by cases h) q6 rfl rfl hd q8) kk
    show Value.int (u1 μ.1 a (u1 (μ.1 a) _ x) a j) = _
    rw [u1_s, u1_d]
    by_cases hj : j = i.toNatClampNeg
    · rw [if_pos hj, if_pos hj]
    · rw [if_neg hj, if_neg hj]; rfl
  · cases hx
theorem r_lastore {a : Nat} {i : Int32} {x : Int64} {μ' : Mm} (hx : pa_L a i x μ = some μ') (hd : decode cc pc = .ok (.lastore, 1)) (kk : Rn G own cc nL ret nm R Z cells slots (pc + 1) lv st μ') : Rn G own cc nL ret nm R Z cells slots pc lv (.long x :: .int i :: .ref a :: st) μ := by
  unfold pa_L at hx
  split at hx
  · rename_i hK
    cases hx
    refine r_ast (μ' := ms_L μ a i.toNatClampNeg x) (t := 21) (w := .long x) ⟨by decide, by decide⟩ hK.1 hK.2 rfl rfl rfl (fun _ _ => rfl) (fun b hb => u1_n _ _ hb) (fun _ _ => rfl) (fun j => ?_) (fun p l e s m args below meth c H locs ls cell C _ q3 q4 _ q5 q6 q8 => W.last C.1 C.2.1 q3 q4 (by rw [q5]; exact fun h => by cases h) q6 rfl rfl hd q8) kk
    show Value.long (u1 μ.2.1 a (u1 (μ.2.1 a) _ x) a j) = _
    rw [u1_s, u1_d]
    by_cases hj : j = i.toNatClampNeg
    · rw [if_pos hj, if_pos hj]
    · rw [if_neg hj, if_neg hj]; rfl
  · cases hx
theorem r_bastore {a : Nat} {i x : Int32} {μ' : Mm} (hx : pa_B a i x μ = some μ') (hd : decode cc pc = .ok (.bastore, 1)) (kk : Rn G own cc nL ret nm R Z cells slots (pc + 1) lv st μ') : Rn G own cc nL ret nm R Z cells slots pc lv (.int x :: .int i :: .ref a :: st) μ := by
  unfold pa_B at hx
  split at hx
  · rename_i hK
    cases hx
    refine r_ast (μ' := ms_I μ a i.toNatClampNeg x.toInt8.toInt32) (t := 22) (w := narrow .byte (.int x)) ⟨by decide, by decide⟩ hK.1 hK.2 rfl rfl rfl (fun b hb => u1_n _ _ hb) (fun _ _ => rfl) (fun _ _ => rfl) (fun j => ?_) (fun p l e s m args below meth c H locs ls cell C _ q3 q4 _ q5 q6 q8 => W.bast C.1 C.2.1 q3 q4 (by rw [q5]; exact fun h => by cases h) q6 rfl rfl hd q8) kk
    show Value.int (u1 μ.1 a (u1 (μ.1 a) _ _) a j) = _
    rw [u1_s, u1_d]
    by_cases hj : j = i.toNatClampNeg
    · rw [if_pos hj, if_pos hj]; rfl
    · rw [if_neg hj, if_neg hj]; rfl
  · cases hx
theorem r_zastore {a : Nat} {i x : Int32} {μ' : Mm} (hx : pa_Z a i x μ = some μ') (hd : decode cc pc = .ok (.bastore, 1)) (kk : Rn G own cc nL ret nm R Z cells slots (pc + 1) lv st μ') : Rn G own cc nL ret nm R Z cells slots pc lv (.int x :: .int i :: .ref a :: st) μ := by
  unfold pa_Z at hx
  split at hx
  · rename_i hK
    cases hx
    refine r_ast (μ' := ms_I μ a i.toNatClampNeg x) (t := 23) (w := narrow .boolean (.int x)) ⟨by decide, by decide⟩ hK.1 ⟨hK.2.1, hK.2.2.1⟩ rfl rfl rfl (fun b hb => u1_n _ _ hb) (fun _ _ => rfl) (fun _ _ => rfl) (fun j => ?_) (fun p l e s m args below meth c H locs ls cell C _ q3 q4 _ q5 q6 q8 => W.zast C.1 C.2.1 q3 q4 (by rw [q5]; exact fun h => by cases h) q6 rfl rfl hd q8) kk
    show Value.int (u1 μ.1 a (u1 (μ.1 a) _ _) a j) = _
    rw [u1_s, u1_d]
    by_cases hj : j = i.toNatClampNeg
    · rw [if_pos hj, if_pos hj, (nar_z hK.2.2.2).1]
    · rw [if_neg hj, if_neg hj]; rfl
  · cases hx
end RH
