/-! ===== contracts, calls, returns, new cells ===== -/
def rmd (d mc ms : Nat) : Room := { frames := d, cells := mc, slots := ms, locals := 64 * d }
def QQ (G : Gv) (Q : Option Value → Mm → Prop) : Array Value → State → Outcome → State → Prop := fun _ _ o t => ∃ (v : Option Value) (μ' : Mm), o = .returned v ∧ Sim G t μ' t.heap ∧ Q v μ'
def Zm (G : Gv) (mc ms : Nat) (Q : Option Value → Mm → Prop) : Zt := fun below args s => MQ below (QQ G Q) args s mc ms (fun q => G.1 ≤ q)
/-- method y, called with av over the memory μ, within d frames, mc cells, ms slots, ends as Q says -/
def Mt (G : Gv) (y : MethodName) (cc : ByteArray) (nL : Nat) (ret : Option FieldType) (d mc ms : Nat) (av : List Value) (μ : Mm) (Q : Option Value → Mm → Prop) : Prop :=
  ∀ l : Launch, Met l y (.code y cc nL ret :: lw_ok) (rmd d mc ms) (va_Pc av (fun U => Sim G U μ U.heap ∧ Ex G U)) (QQ G Q) mc ms (fun q => G.1 ≤ q)
theorem Mt.of {G : Gv} {y : MethodName} {cc : ByteArray} {nL : Nat} {ret : Option FieldType} {d mc ms : Nat} {av : List Value} {μ : Mm} {Q : Option Value → Mm → Prop} (hy : plainName y.cls = true) (hn : (lg_sl av).length ≤ nL)
    (k : Rn G y.cls cc nL ret y.name (rmd d mc ms) (Zm G mc ms Q) 0 0 0 (lv_args 0 av) [] μ) : Mt G y cc nL ret d mc ms av μ Q := by
  intro l
  refine Met.ofW (cc := cc) (maxL := nL) (ret := ret) hy rfl ?_
  intro p e s m args below meth c s₁ B hml hv
  obtain ⟨rfl, hS, hE⟩ := hv
  rw [lg_entry_eq]
  exact k p l e s m _ below meth c s.heap [] _ ⟨B.exec, B.bytes, hml, B.returns, B.notSynchronized, findClass_of_methodNamed B.named, fun w hw => atoms_spec (ws := .code y cc nL ret :: lw_ok) B.pre w (List.mem_cons_of_mem _ hw), (name_of_methodNamed B.named B.method).1, hE⟩ hS (fun q h => by cases h) (lv_entry av hn)
theorem Mt.mono {G : Gv} {y : MethodName} {cc : ByteArray} {nL : Nat} {ret : Option FieldType} {d mc ms : Nat} {av : List Value} {μ : Mm} {Q Q' : Option Value → Mm → Prop} (h : Mt G y cc nL ret d mc ms av μ Q) (hq : ∀ v μ', Q v μ' → Q' v μ') : Mt G y cc nL ret d mc ms av μ Q' := by
  intro l p e ha hc hk s m args below hf h1 h2 h3
  obtain ⟨k, o, g1, g2, g3, ⟨v, μ', g4, g5, g6⟩, g7⟩ := h l p e ha hc hk s m args below hf h1 h2 h3
  exact ⟨k, o, g1, g2, g3, ⟨v, μ', g4, g5, hq _ _ g6⟩, g7⟩
/-- of a method that is called: its code is told, how many parameters it has -/
def Ck (y : MethodName) (cc : ByteArray) (nL : Nat) (ret : Option FieldType) (n : Nat) : Prop := Cond.code y cc nL ret ∈ lw_ok ∧ Cond.initialized y.cls ∈ lw_ok ∧ (y.cls ≠ "java/lang/invoke/MethodHandle" ∧ y.cls ≠ "java/lang/invoke/VarHandle" ∧ (parseMethodDescriptor y.desc).map (fun d => d.parameters.length) = some n) ∧ nL ≤ 45
/-- the entry idx of own's pool is the method y -/
def Lk (own : String) (idx : Nat) (y : MethodName) : Prop := Cond.methodLink own idx y ∈ lw_ok ∨ ∃ host, Cond.methodLinkNest own idx y host ∈ lw_ns
theorem ck_good {y : MethodName} {cc : ByteArray} {nL : Nat} {ret : Option FieldType} (h : Cond.code y cc nL ret ∈ lw_ok) : GoodIn lw_ok (.code y cc nL ret :: lw_ok) := by
  intro w hw
  have h1 : w ∈ lw_ok := by
    rcases List.mem_cons.mp hw with rfl | h1
    · exact h
    · exact h1
  exact ⟨h1, ok_good h1⟩
section RC
variable {G : Gv} {own : String} {cc : ByteArray} {nL : Nat} {ret : Option FieldType} {nm : String} {R : Room} {Z : Zt} {cells slots pc : Nat} {lv : List (Nat × Value)} {st : List Value} {μ : Mm}
theorem of_run {p : Program} {l : Launch} {e : Env} {s : State} {m : MethodId} {args : Array Value} {below : List Frame} {meth : Method} {c : Code} {H : Heap} {locs : List Loc} {ls : Array Slot} {mc' ms' : Nat} {st0 : List Value} {Q' : Option Value → Mm → Prop} {a : Array Value}
    (hr : va_Run p l e R s m args below meth c H locs cells slots mc' ms' (F0 m pc ls st0) st (QQ G Q' a) (fun q => G.1 ≤ q)) (C : Cx G own cc nL ret nm p s m args meth c) (hL : ∀ q ∈ locs, G.1 ≤ q.base) (hl : lv_has ls nL lv)
    (kk : ∀ (v : Option Value) (μ' : Mm), Q' v μ' → Rn G own cc nL ret nm R Z (cells + mc') (slots + ms') (pc + 3) lv (v.toList ++ st) μ') : W p l e R s m args below meth c H locs cells slots (Z below args s) (F0 m pc ls st0) := by
  intro T hT X
  obtain ⟨v, st₀, t, T', L, h0, X', hL', e1, e2, ⟨v', μ', hv, hS', hq⟩, st⟩ := hr T hT X
  cases hv
  have hal : s.vm.Alike t.vm := by rw [← e2]; exact X'.warmed.alike
  obtain ⟨t2, a1, b1⟩ := kk v μ' hq p l e s m args below meth c T'.heap (locs ++ L) ls C (by rw [e1]; exact hS'.moved hal.symm) (fun q hq => by
    rcases List.mem_append.mp hq with h | h
    · exact hL q h
    · exact hL' q h) hl T' rfl X'
  exact ⟨t2, st t2 a1, b1⟩
theorem blind_of (av : List Value) : FrameBlind (va_Pc av (fun U => Sim G U μ U.heap ∧ Ex G U)) := by
  intro a U g mk h
  obtain ⟨h1, h2, h3⟩ := h
  exact ⟨h1, Sim.moved (u := U) (U := U.calling g mk a) (Vm.Alike.refl U.vm) h2, Ex.same (u := U) (U := U.calling g mk a) rfl h3⟩
/-- an instance method of the class of kind t -/
theorem r_callV {y : MethodName} {cc' : ByteArray} {nL' d' mc' ms' n idx b t : Nat} {ret' : Option FieldType} (As : List Value) {stk : List Value} {Q' : Option Value → Mm → Prop} (hM : Mt G y cc' nL' ret' d' mc' ms' (.ref b :: As) μ Q') (hc : Ck y cc' nL' ret' n) (hlk : Lk own idx y) (hin : Cond.instanceMethod y ∈ lw_ok) (hse : Cond.selects y.cls y y ∈ lw_ok)
    (hK : (mm_K μ b).1 = t) (ht : cnm t = y.cls ∧ 1 ≤ t ∧ t ≤ 12) (hn : As.length = n) (hst : stk = As.reverse ++ .ref b :: st) (hW : (st.map fun v => v.category).sum ≤ 8) (hR : d' + 1 ≤ R.frames ∧ 64 * d' + 64 ≤ R.locals) (hcs : cells + mc' ≤ R.cells ∧ slots + ms' ≤ R.slots) (hd : decode cc pc = .ok (.invokevirtual idx, 3))
    (kk : ∀ (v : Option Value) (μ' : Mm), Q' v μ' → Rn G own cc nL ret nm R Z (cells + mc') (slots + ms') (pc + 3) lv (v.toList ++ st) μ') : Rn G own cc nL ret nm R Z cells slots pc lv stk μ :=
  fun p l e s m args below meth c H locs ls C hS hL hl => by
    subst hst
    subst hK
    obtain ⟨hc1, hc2, hc3, hc4⟩ := hc
    obtain ⟨-, cC, iS, ⟨-, hfc, -⟩, cell, q1, q2, q3, -⟩ := hS.1 b ht.2.1 ht.2.2
    have hts := C.2.2.2.2.2.2.1
    have hp : PreV s H y.cls b (va_Pc (.ref b :: As) (fun U => Sim G U μ U.heap ∧ Ex G U)) As := ⟨blind_of _, ⟨cell, q1, by rw [q3]; rfl, by rw [q2, ← ht.1]; exact hfc⟩, fun U hU hW => ⟨rfl, by rw [hU]; exact hS.moved hW.alike, C.2.2.2.2.2.2.2.2.warm hW⟩⟩
    have hRm : (rmd d' mc' ms').frames + 1 ≤ R.frames ∧ 8 + (nL' + 11) + (rmd d' mc' ms').locals ≤ R.locals := ⟨hR.1, by show 8 + (nL' + 11) + 64 * d' ≤ _; omega⟩
    have hfix : CallFix p m c cc nL s args lw_ok own := ⟨C.1, C.2.1, C.2.2.1, C.2.2.2.2.2.1, hts⟩
    rcases hlk with hlk | ⟨host, hlk⟩
    · exact of_run (va_runV (rest := st) hfix (hM l) ⟨callB_of n hts (ck_good hc1) rfl rfl rfl (hts _ hc2) (hts _ hlk) hc3 hRm, hts _ hin, hts _ hse⟩ hp rfl hn hl.1 rfl (lv_room hW) hd hcs) C hL hl kk
    · exact of_run (va_runVN (rest := st) hfix (hM l) ⟨va_cnB n hts (ck_good hc1) rfl rfl rfl (C.2.2.2.2.2.2.2.2.2.1 _ hlk) (hts _ hc2) hc3 hRm, hts _ hin, hts _ hse⟩ hp rfl hn hl.1 rfl (lv_room hW) hd hcs) C hL hl kk
theorem r_callS {y : MethodName} {cc' : ByteArray} {nL' d' mc' ms' n idx : Nat} {ret' : Option FieldType} (As : List Value) {stk : List Value} {Q' : Option Value → Mm → Prop} (hM : Mt G y cc' nL' ret' d' mc' ms' As μ Q') (hc : Ck y cc' nL' ret' n) (hlk : Lk own idx y) (hstt : Cond.static y ∈ lw_ok)
    (hn : As.length = n) (hst : stk = As.reverse ++ st) (hW : (st.map fun v => v.category).sum ≤ 8) (hR : d' + 1 ≤ R.frames ∧ 64 * d' + 64 ≤ R.locals) (hcs : cells + mc' ≤ R.cells ∧ slots + ms' ≤ R.slots) (hd : decode cc pc = .ok (.invokestatic idx, 3))
    (kk : ∀ (v : Option Value) (μ' : Mm), Q' v μ' → Rn G own cc nL ret nm R Z (cells + mc') (slots + ms') (pc + 3) lv (v.toList ++ st) μ') : Rn G own cc nL ret nm R Z cells slots pc lv stk μ :=
  fun p l e s m args below meth c H locs ls C hS hL hl => by
    subst hst
    obtain ⟨hc1, hc2, hc3, hc4⟩ := hc
    have hts := C.2.2.2.2.2.2.1
    have hp : PreS s H (va_Pc As (fun U => Sim G U μ U.heap ∧ Ex G U)) As := ⟨blind_of _, fun U hU hW => ⟨rfl, by rw [hU]; exact hS.moved hW.alike, C.2.2.2.2.2.2.2.2.warm hW⟩⟩
    have hRm : (rmd d' mc' ms').frames + 1 ≤ R.frames ∧ 8 + (nL' + 11) + (rmd d' mc' ms').locals ≤ R.locals := ⟨hR.1, by show 8 + (nL' + 11) + 64 * d' ≤ _; omega⟩
    have hfix : CallFix p m c cc nL s args lw_ok own := ⟨C.1, C.2.1, C.2.2.1, C.2.2.2.2.2.1, hts⟩
    rcases hlk with hlk | ⟨host, hlk⟩
    · exact of_run (va_runS (rest := st) hfix (hM l) ⟨callB_of n hts (ck_good hc1) rfl rfl rfl (hts _ hc2) (hts _ hlk) hc3 hRm, hts _ hstt⟩ hp rfl hn hl.1 rfl (lv_room hW) hd hcs) C hL hl kk
    · exact of_run (va_runSN (rest := st) hfix (hM l) ⟨va_cnB n hts (ck_good hc1) rfl rfl rfl (C.2.2.2.2.2.2.2.2.2.1 _ hlk) (hts _ hc2) hc3 hRm, hts _ hstt, trivial⟩ hp rfl hn hl.1 rfl (lv_room hW) hd hcs) C hL hl kk
theorem r_callI {y : MethodName} {cc' : ByteArray} {nL' d' mc' ms' n idx b : Nat} (As : List Value) {stk : List Value} {Q' : Option Value → Mm → Prop} (hM : Mt G y cc' nL' none d' mc' ms' (.ref b :: As) μ Q') (hc : Ck y cc' nL' none n) (hlk : Lk own idx y) (hin : Cond.instanceMethod y ∈ lw_ok) (hy : y.name = "<init>")
    (hn : As.length = n) (hst : stk = As.reverse ++ .ref b :: st) (hW : (st.map fun v => v.category).sum ≤ 8) (hR : d' + 1 ≤ R.frames ∧ 64 * d' + 64 ≤ R.locals) (hcs : cells + mc' ≤ R.cells ∧ slots + ms' ≤ R.slots) (hd : decode cc pc = .ok (.invokespecial idx, 3))
    (kk : ∀ (v : Option Value) (μ' : Mm), Q' v μ' → Rn G own cc nL ret nm R Z (cells + mc') (slots + ms') (pc + 3) lv (v.toList ++ st) μ') : Rn G own cc nL ret nm R Z cells slots pc lv stk μ :=
  fun p l e s m args below meth c H locs ls C hS hL hl => by
    subst hst
    obtain ⟨hc1, hc2, hc3, hc4⟩ := hc
    have hts := C.2.2.2.2.2.2.1
    have hp : PreS s H (va_Pc (.ref b :: As) (fun U => Sim G U μ U.heap ∧ Ex G U)) (.ref b :: As) := ⟨blind_of _, fun U hU hW => ⟨rfl, by rw [hU]; exact hS.moved hW.alike, C.2.2.2.2.2.2.2.2.warm hW⟩⟩
    have hRm : (rmd d' mc' ms').frames + 1 ≤ R.frames ∧ 8 + (nL' + 11) + (rmd d' mc' ms').locals ≤ R.locals := ⟨hR.1, by show 8 + (nL' + 11) + 64 * d' ≤ _; omega⟩
    have hfix : CallFix p m c cc nL s args lw_ok own := ⟨C.1, C.2.1, C.2.2.1, C.2.2.2.2.2.1, hts⟩
    rcases hlk with hlk | ⟨host, hlk⟩
    · exact of_run (va_runI (rest := st) hfix (hM l) ⟨callB_of n hts (ck_good hc1) rfl rfl rfl (hts _ hc2) (hts _ hlk) hc3 hRm, hy, hts _ hin⟩ hp rfl hn hl.1 rfl (lv_room hW) hd hcs) C hL hl kk
    · exact of_run (va_runIN (rest := st) hfix (hM l) ⟨va_cnB n hts (ck_good hc1) rfl rfl rfl (C.2.2.2.2.2.2.2.2.2.1 _ hlk) (hts _ hc2) hc3 hRm, hy, hts _ hin⟩ hp rfl hn hl.1 rfl (lv_room hW) hd hcs) C hL hl kk
theorem r_objInit {idx a : Nat} (hl1 : Cond.methodLink own idx objectInit ∈ lw_ok) (hl2 : Cond.instanceMethod objectInit ∈ lw_ok) (hl3 : Cond.code objectInit ⟨#[0xb1]⟩ 1 none ∈ lw_ok) (hW : (st.map fun v => v.category).sum ≤ 8) (hR : 1 ≤ R.frames ∧ 64 ≤ R.locals) (hd : decode cc pc = .ok (.invokespecial idx, 3))
    (kk : Rn G own cc nL ret nm R Z cells slots (pc + 3) lv st μ) : Rn G own cc nL ret nm R Z cells slots pc lv (.ref a :: st) μ :=
  fun p l e s m args below meth c H locs ls C hS hL hl => by
    have hts := C.2.2.2.2.2.2.1
    refine W.objInit C.1 C.2.1 C.2.2.2.2.2.1 (hts _ hl1) (hts _ hl2) (hts _ hl3) rfl (by rw [C.2.2.1]; exact hl.1) rfl hd hR.1 ?_ (kk p l e s m args below meth c H locs ls C hS hL hl)
    have := lv_room (m := m) (pc := pc) (ls := ls) (rest := .ref a :: st) hW
    omega
theorem r_vreturn {Q : Option Value → Mm → Prop} (hr : ret = none) (hq : Q none μ) (hd : decode cc pc = .ok (.return_, 1)) : Rn G own cc nL ret nm R (Zm G cells slots Q) cells slots pc lv [] μ :=
  fun p l e s m args below meth c H locs ls C hS hL hl => W.vret C.1 C.2.1 (C.2.2.2.1.trans hr) (fun t ht hW => ⟨_, μ, rfl, by rw [ht]; exact hS.moved hW.alike, hq⟩) hL hd (hlocks := C.2.2.2.2.1)
theorem r_ireturn {x : Int32} {Q : Option Value → Mm → Prop} (hr : ret = some .int) (hq : Q (some (.int x)) μ) (hd : decode cc pc = .ok (.ireturn, 1)) : Rn G own cc nL ret nm R (Zm G cells slots Q) cells slots pc lv [.int x] μ :=
  fun p l e s m args below meth c H locs ls C hS hL hl => W.iret C.1 C.2.1 (C.2.2.2.1.trans hr) (fun t ht hW => ⟨_, μ, rfl, by rw [ht]; exact hS.moved hW.alike, hq⟩) hL hd (hlocks := C.2.2.2.2.1)
theorem r_zreturn {x : Int32} {Q : Option Value → Mm → Prop} (hr : ret = some .boolean) (hz : x = 0 ∨ x = 1) (hq : Q (some (.int x)) μ) (hd : decode cc pc = .ok (.ireturn, 1)) : Rn G own cc nL ret nm R (Zm G cells slots Q) cells slots pc lv [.int x] μ :=
  fun p l e s m args below meth c H locs ls C hS hL hl => W.zret C.1 C.2.1 (C.2.2.2.1.trans hr) (nar_z hz).1 (fun t ht hW => ⟨_, μ, rfl, by rw [ht]; exact hS.moved hW.alike, hq⟩) hL hd (hlocks := C.2.2.2.2.1)
theorem r_lreturn {x : Int64} {Q : Option Value → Mm → Prop} (hr : ret = some .long) (hq : Q (some (.long x)) μ) (hd : decode cc pc = .ok (.lreturn, 1)) : Rn G own cc nL ret nm R (Zm G cells slots Q) cells slots pc lv [.long x] μ :=
  fun p l e s m args below meth c H locs ls C hS hL hl => W.lret C.1 C.2.1 (C.2.2.2.1.trans hr) (fun t ht hW => ⟨_, μ, rfl, by rw [ht]; exact hS.moved hW.alike, hq⟩) hL hd (hlocks := C.2.2.2.2.1)
theorem r_areturn {x : Nat} {rt : FieldType} {Q : Option Value → Mm → Prop} (hr : ret = some rt) (hrt : is_r rt = true) (hq : Q (some (.ref x)) μ) (hd : decode cc pc = .ok (.areturn, 1)) : Rn G own cc nL ret nm R (Zm G cells slots Q) cells slots pc lv [.ref x] μ :=
  fun p l e s m args below meth c H locs ls C hS hL hl => W.aret C.1 C.2.1 (C.2.2.2.1.trans hr) (by cases rt <;> first | exact Or.inl ⟨_, rfl⟩ | exact Or.inr ⟨_, rfl⟩ | (simp [is_r] at hrt)) (Or.inr ⟨x, rfl⟩) (fun t ht hW => ⟨_, μ, rfl, by rw [ht]; exact hS.moved hW.alike, hq⟩) hL hd (hlocks := C.2.2.2.2.1)
theorem dv_fv (ty : FieldType) (h : is_i ty = true ∨ is_r ty = true ∨ ty = .long) : defaultValue ty = fv ty 0 0 none := by
  cases ty <;> first | rfl | (simp [is_i, is_r] at h)
/-- a new object of kind t -/
theorem r_new {idx t : Nat} (ht : 1 ≤ t ∧ t ≤ 12) (hcl : Cond.classLink own idx (cnm t) ∈ lw_ok) (htys : ∀ k, k < cfn t → is_i (cty t k) = true ∨ is_r (cty t k) = true ∨ cty t k = .long) (hcs : cells + 1 ≤ R.cells ∧ slots + cfn t ≤ R.slots) (hd : decode cc pc = .ok (.new idx, 3))
    (kk : Rn G own cc nL ret nm R Z (cells + 1) (slots + cfn t) (pc + 3) lv (.ref (mm_N μ) :: st) (mn_C μ t 0)) : Rn G own cc nL ret nm R Z cells slots pc lv st μ :=
  fun p l e s m args below meth c H locs ls C hS hL hl => by
    have hts := C.2.2.2.2.2.2.1
    obtain ⟨cC, iS, hKn⟩ := u_known (C := cnm t) (T := cft t) (N := cfn t) hts (c_in t) (hts _ (c_is t))
    refine W.newcK C.1 C.2.1 C.2.2.2.2.2.1 (hts _ hcl) (hts _ (c_is t)) (hts _ (c_ii t)) rfl hd hcs.1 hcs.2 hKn.2.1 rfl fun H1 kC hkC e1 z1 o1 => ?_
    have hN : mm_N μ = H.size := hS.2.2.2.1
    rw [hN] at kk
    refine kk p l e s m args below meth c H1 locs ls C (hS.new z1 o1 (by omega) (fun _ _ => ⟨cC, iS, hKn, (u_born (cty t) hts (c_in t) hKn hkC e1 (c_ty t)).to (fun k hk => dv_fv _ (htys k hk))⟩) (fun h9 _ => by omega)) hL hl
/-- a new array of kind t -/
def nw_A (t : Nat) (n : Int32) (μ : Mm) : Option (Nat × Mm) := if 0 ≤ n.toInt ∧ n.toInt ≤ 100000 then some (mm_N μ, mn_C μ t n.toNatClampNeg) else none
theorem r_newarray {t : Nat} {n : Int32} {atype : ArrayType} {r : Nat × Mm} (ht : t = 20 ∨ t = 21 ∨ t = 22 ∨ t = 23) (hat : newarray.typeOf atype = aty t) (hx : nw_A t n μ = some r) (hw : Cond.arrayClass (aty t) ∈ lw_ok) (hcs : cells + 1 ≤ R.cells ∧ slots + n.toNatClampNeg ≤ R.slots) (hd : decode cc pc = .ok (.newarray atype, 2))
    (kk : Rn G own cc nL ret nm R Z (cells + 1) (slots + n.toNatClampNeg) (pc + 2) lv (.ref r.1 :: st) r.2) : Rn G own cc nL ret nm R Z cells slots pc lv (.int n :: st) μ :=
  fun p l e s m args below meth c H locs ls C hS hL hl => by
    unfold nw_A at hx
    split at hx
    · rename_i hn
      cases hx
      have hts := C.2.2.2.2.2.2.1
      have hb : componentBytes (newarray.typeOf atype) ≤ 8 := by rw [hat]; rcases ht with rfl | rfl | rfl | rfl <;> decide
      have hc : n.toNatClampNeg ≤ 100000 := by
        have : (n.toNatClampNeg : Int) = n.toInt := Int.toNat_of_nonneg hn.1
        omega
      refine va_newaK C.1 C.2.1 (by rw [hat]; exact hts _ hw) rfl hd rfl ?_ rfl ?_ hcs.1 hcs.2 rfl fun H1 cA e1 z1 o1 hAr hNm => ?_
      · intro h
        have := Int32.lt_iff_toInt_lt.mp h
        have h0 : (0 : Int32).toInt = 0 := by decide
        omega
      · exact Nat.le_trans (Nat.mul_le_mul hc hb) (by decide)
      · have hN : mm_N μ = H.size := hS.2.2.2.1
        have kk' := kk p l e s m args below meth c H1 locs ls C (hS.new z1 o1 (by omega) (fun _ h9 => by omega) (fun _ _ => ⟨cA, by rw [← hat]; exact hAr, ?_, ?_⟩)) hL hl
        · rw [hN] at kk'
          exact kk'
        · rw [hat] at hNm
          rcases ht with rfl | rfl | rfl | rfl <;> exact hNm
        · rw [e1, hat]
          congr 2
          funext j
          rcases ht with rfl | rfl | rfl | rfl <;> rfl
    · cases hx
end RC
