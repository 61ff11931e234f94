theorem in_pos {big ws : List Cond} (ps : List Nat) (h : ps.filterMap (fun i => big[i]?) = ws) : ∀ w ∈ ws, w ∈ big := by
  intro w hw
  rw [← h] at hw
  obtain ⟨i, -, hi⟩ := List.mem_filterMap.mp hw
  exact List.mem_of_getElem? hi
theorem in_X0 : ∀ w ∈ u_ws RX0 TX0 11, w ∈ lw_tbl := in_pos [206, 208, 210, 212, 214, 216, 218, 220, 222, 224, 226] (by decide +kernel)
theorem in_X1 : ∀ w ∈ u_ws RX1 TX1 15, w ∈ lw_tbl := in_pos [508, 510, 512, 514, 516, 518, 520, 522, 524, 526, 528, 530, 532, 534, 536] (by decide +kernel)
theorem in_X2 : ∀ w ∈ u_ws RX2 TX2 2, w ∈ lw_tbl := in_pos [277, 279] (by decide +kernel)
theorem in_X3 : ∀ w ∈ u_ws RX3 TX3 5, w ∈ lw_tbl := in_pos [243, 245, 247, 249, 251] (by decide +kernel)
theorem in_X4 : ∀ w ∈ u_ws RX4 TX4 17, w ∈ lw_tbl := in_pos [445, 447, 449, 451, 453, 455, 457, 459, 461, 463, 465, 467, 469, 471, 473, 475, 477] (by decide +kernel)
theorem in_X5 : ∀ w ∈ u_ws RX5 TX5 2, w ∈ lw_tbl := in_pos [144, 146] (by decide +kernel)
theorem in_X6 : ∀ w ∈ u_ws RX6 TX6 7, w ∈ lw_tbl := in_pos [169, 171, 173, 175, 177, 179, 181] (by decide +kernel)
theorem in_X7 : ∀ w ∈ u_ws RX7 TX7 17, w ∈ lw_tbl := in_pos [360, 362, 364, 366, 368, 370, 372, 374, 376, 378, 380, 382, 384, 386, 388, 390, 392] (by decide +kernel)
theorem in_X8 : ∀ w ∈ u_ws RX8 TX8 5, w ∈ lw_tbl := in_pos [408, 410, 412, 414, 416] (by decide +kernel)
theorem in_X9 : ∀ w ∈ u_ws RX9 TX9 4, w ∈ lw_tbl := in_pos [293, 295, 297, 299] (by decide +kernel)
theorem in_X10 : ∀ w ∈ u_ws RX10 TX10 17, w ∈ lw_tbl := in_pos [629, 631, 633, 635, 637, 639, 641, 643, 645, 647, 649, 651, 653, 655, 657, 659, 661] (by decide +kernel)
theorem in_X11 : ∀ w ∈ u_ws RX11 TX11 73, w ∈ lw_tbl := in_pos [1460, 1462, 1464, 1466, 1468, 1470, 1472, 1474, 1476, 1478, 1480, 1482, 1484, 1486, 1488, 1490, 1492, 1494, 1496, 1498, 1500, 1502, 1504, 1506, 1508, 1510, 1512, 1514, 1516, 1518, 1520, 1522, 1524, 1526, 1528, 1530, 1532, 1534, 1536, 1538, 1540, 1542, 1544, 1546, 1548, 1550, 1552, 1554, 1556, 1558, 1560, 1562, 1564, 1566, 1568, 1570, 1572, 1574, 1576, 1578, 1580, 1582, 1584, 1586, 1588, 1590, 1592, 1594, 1596, 1598, 1600, 1602, 1604] (by decide +kernel)
theorem c_in0 (t : Nat) : ∀ w ∈ u_ws (cnm t) (cft t) (cfn t), w ∈ lw_tbl := by
  unfold cnm cft cfn
  split <;> first | exact in_X0 | exact in_X1 | exact in_X2 | exact in_X3 | exact in_X4 | exact in_X5 | exact in_X6 | exact in_X7 | exact in_X8 | exact in_X9 | exact in_X10 | exact in_X11
theorem c_ty (t : Nat) : ∀ k, k < cfn t → parseFieldDescriptor (cft t k).2.2.1 = some (cty t k) := by
  unfold cty cft cfn
  split <;> first | exact tyX0_ok | exact tyX1_ok | exact tyX2_ok | exact tyX3_ok | exact tyX4_ok | exact tyX5_ok | exact tyX6_ok | exact tyX7_ok | exact tyX8_ok | exact tyX9_ok | exact tyX10_ok | exact tyX11_ok
theorem c_nm (t : Nat) : ∀ a, a < cfn t → ∀ b, b < cfn t → a ≠ b → (cft t a).2.1 ≠ (cft t b).2.1 := by
  unfold cft cfn
  split <;> first | exact nmX0 | exact nmX1 | exact nmX2 | exact nmX3 | exact nmX4 | exact nmX5 | exact nmX6 | exact nmX7 | exact nmX8 | exact nmX9 | exact nmX10 | exact nmX11
def is_ns : Cond → Bool
  | .fieldLinkNest .. => true
  | .methodLinkNest .. => true
  | _ => false
def lw_ok : List Cond := lw_tbl.filter goodWord
def lw_ns : List Cond := lw_tbl.filter is_ns
theorem ok_at {w : Cond} (i : Nat) (h : lw_tbl[i]? = some w) (hg : goodWord w = true) : w ∈ lw_ok := List.mem_filter.mpr ⟨List.mem_of_getElem? h, hg⟩
theorem ns_at {w : Cond} (i : Nat) (h : lw_tbl[i]? = some w) (hg : is_ns w = true) : w ∈ lw_ns := List.mem_filter.mpr ⟨List.mem_of_getElem? h, hg⟩
theorem ok_good {w : Cond} (h : w ∈ lw_ok) : (w.onTables && w.keeps) = true ∨ ∃ ty, w = .arrayClass ty := good_of_word (List.mem_filter.mp h).2
theorem u_good {C : String} {T : u_T} {N : Nat} (h : ∀ w ∈ u_ws C T N, w ∈ lw_tbl) : ∀ w ∈ u_ws C T N, w ∈ lw_ok := by
  intro w hw
  refine List.mem_filter.mpr ⟨h w hw, ?_⟩
  obtain ⟨k, -, rfl⟩ := List.mem_map.mp hw
  unfold u_lay
  split <;> rfl
theorem c_in (t : Nat) : ∀ w ∈ u_ws (cnm t) (cft t) (cfn t), w ∈ lw_ok := u_good (c_in0 t)
def ao_L (U : State) : Prop := (Cond.arrayOver (.array .long)).before #[] U = true
theorem ao_L.moved {u U : State} (hvm : u.vm.Alike U.vm) (h : ao_L u) : ao_L U := by
  show (Cond.arrayOver (.array .long)).before #[] (u.setVm U.vm) = true
  rw [Cond.arrayOver_setVmC hvm]
  exact h
/-- words that calls don't carry by themselves: members of nest mates, arrays of references, string constants -/
def Ex (G : Gv) (U : State) : Prop := Sr G U ∧ (∀ w ∈ lw_ns, va_Nw w U) ∧ va_AO RX3 U ∧ ao_L U
theorem Ex.same {G : Gv} {u U : State} (hv : u.vm = U.vm) (h : Ex G u) : Ex G U := by
  refine ⟨fun i hi => (h.1 i hi).same hv.symm, fun w hw => va_Nw.same ?_ hv (h.2.1 w hw), h.2.2.1.moved (hv ▸ Vm.Alike.refl u.vm), h.2.2.2.moved (hv ▸ Vm.Alike.refl u.vm)⟩
  have := (List.mem_filter.mp hw).2
  cases w <;> first | rfl | (simp [is_ns] at this)
theorem Ex.warm {G : Gv} {s U : State} (hW : s.WarmedH U.vm) (h : Ex G s) : Ex G U := by
  refine ⟨fun i hi => (h.1 i hi).warm hW, fun w hw => ?_, h.2.2.1.moved hW.alike, h.2.2.2.moved hW.alike⟩
  have h1 := (List.mem_filter.mp hw).2
  have h2 := h.2.1 w hw
  cases w <;> first | exact va_Nw.warmF hW h2 | exact va_Nw.warmM hW h2 | (simp [is_ns] at h1)

theorem is_X0 : Cond.instantiable RX0 11 ∈ lw_ok := ok_at 185 (by decide +kernel) rfl
theorem ii_X0 : Cond.initialized RX0 ∈ lw_ok := ok_at 109 (by decide +kernel) rfl
theorem is_X1 : Cond.instantiable RX1 15 ∈ lw_ok := ok_at 481 (by decide +kernel) rfl
theorem ii_X1 : Cond.initialized RX1 ∈ lw_ok := ok_at 117 (by decide +kernel) rfl
theorem is_X2 : Cond.instantiable RX2 2 ∈ lw_ok := ok_at 262 (by decide +kernel) rfl
theorem ii_X2 : Cond.initialized RX2 ∈ lw_ok := ok_at 112 (by decide +kernel) rfl
theorem is_X3 : Cond.instantiable RX3 5 ∈ lw_ok := ok_at 230 (by decide +kernel) rfl
theorem ii_X3 : Cond.initialized RX3 ∈ lw_ok := ok_at 110 (by decide +kernel) rfl
theorem is_X4 : Cond.instantiable RX4 17 ∈ lw_ok := ok_at 420 (by decide +kernel) rfl
theorem ii_X4 : Cond.initialized RX4 ∈ lw_ok := ok_at 116 (by decide +kernel) rfl
theorem is_X5 : Cond.instantiable RX5 2 ∈ lw_ok := ok_at 135 (by decide +kernel) rfl
theorem ii_X5 : Cond.initialized RX5 ∈ lw_ok := ok_at 107 (by decide +kernel) rfl
theorem is_X6 : Cond.instantiable RX6 7 ∈ lw_ok := ok_at 151 (by decide +kernel) rfl
theorem ii_X6 : Cond.initialized RX6 ∈ lw_ok := ok_at 108 (by decide +kernel) rfl
theorem is_X7 : Cond.instantiable RX7 17 ∈ lw_ok := ok_at 256 (by decide +kernel) rfl
theorem ii_X7 : Cond.initialized RX7 ∈ lw_ok := ok_at 111 (by decide +kernel) rfl
theorem is_X8 : Cond.instantiable RX8 5 ∈ lw_ok := ok_at 396 (by decide +kernel) rfl
theorem ii_X8 : Cond.initialized RX8 ∈ lw_ok := ok_at 115 (by decide +kernel) rfl
theorem is_X9 : Cond.instantiable RX9 4 ∈ lw_ok := ok_at 284 (by decide +kernel) rfl
theorem ii_X9 : Cond.initialized RX9 ∈ lw_ok := ok_at 114 (by decide +kernel) rfl
theorem is_X10 : Cond.instantiable RX10 17 ∈ lw_ok := ok_at 127 (by decide +kernel) rfl
theorem ii_X10 : Cond.initialized RX10 ∈ lw_ok := ok_at 106 (by decide +kernel) rfl
theorem is_X11 : Cond.instantiable RX11 73 ∈ lw_ok := ok_at 1362 (by decide +kernel) rfl
theorem ii_X11 : Cond.initialized RX11 ∈ lw_ok := ok_at 120 (by decide +kernel) rfl
theorem c_is (t : Nat) : Cond.instantiable (cnm t) (cfn t) ∈ lw_ok := by
  unfold cnm cfn
  split <;> first | exact is_X0 | exact is_X1 | exact is_X2 | exact is_X3 | exact is_X4 | exact is_X5 | exact is_X6 | exact is_X7 | exact is_X8 | exact is_X9 | exact is_X10 | exact is_X11
theorem c_ii (t : Nat) : Cond.initialized (cnm t) ∈ lw_ok := by
  unfold cnm
  split <;> first | exact ii_X0 | exact ii_X1 | exact ii_X2 | exact ii_X3 | exact ii_X4 | exact ii_X5 | exact ii_X6 | exact ii_X7 | exact ii_X8 | exact ii_X9 | exact ii_X10 | exact ii_X11
/-- what holds in a method's body -/
def Cx (G : Gv) (own : String) (cc : ByteArray) (nL : Nat) (ret : Option FieldType) (nm : String) (p : Program) (s : State) (m : MethodId) (args : Array Value) (meth : Method) (c : Code) : Prop :=
  p.tables.exec = Jvm.exec ∧ c.code = cc ∧ c.maxLocals = nL ∧ meth.sig.returnType = ret ∧ meth.locks = false ∧ s.vm.findClass own = some m.cls ∧ (∀ w ∈ lw_ok, w.before args s = true) ∧ meth.name = nm ∧ Ex G s
abbrev Zt : Type := List Frame → Array Value → State → State → Prop
/-- from here the machine comes to an end that Z allows -/
def Rn (G : Gv) (own : String) (cc : ByteArray) (nL : Nat) (ret : Option FieldType) (nm : String) (R : Room) (Z : Zt) (cells slots pc : Nat) (lv : List (Nat × Value)) (st : List Value) (μ : Mm) : Prop :=
  ∀ (p : Program) (l : Launch) (e : Env) (s : State) (m : MethodId) (args : Array Value) (below : List Frame) (meth : Method) (c : Code) (H : Heap) (locs : List Loc) (ls : Array Slot),
    Cx G own cc nL ret nm p s m args meth c → Sim G s μ H → (∀ q ∈ locs, G.1 ≤ q.base) → lv_has ls nL lv →
    W p l e R s m args below meth c H locs cells slots (Z below args s) (F0 m pc ls st)
section RN
variable {G : Gv} {own : String} {cc : ByteArray} {nL : Nat} {ret : Option FieldType} {nm : String} {R : Room} {Z : Zt} {cells slots pc : Nat} {lv : List (Nat × Value)} {st : List Value} {μ : Mm}
theorem r_iconst {n : Int} {v : Int32} (hd : decode cc pc = .ok (.iconst n, 1)) (hv : Int32.ofInt n = v) (k : Rn G own cc nL ret nm R Z cells slots (pc + 1) lv (.int v :: st) μ) : Rn G own cc nL ret nm R Z cells slots pc lv (st) μ :=
  fun p l e s m args below meth c H locs ls C hS hL hl => lv_iconst C.1 C.2.1 hd hv (k p l e s m args below meth c H locs ls C hS hL hl)
theorem r_bipush {n : Int} {v : Int32} (hd : decode cc pc = .ok (.bipush n, 2)) (hv : (Int8.ofInt n).toInt32 = v) (k : Rn G own cc nL ret nm R Z cells slots (pc + 2) lv (.int v :: st) μ) : Rn G own cc nL ret nm R Z cells slots pc lv (st) μ :=
  fun p l e s m args below meth c H locs ls C hS hL hl => lv_bipush C.1 C.2.1 hd hv (k p l e s m args below meth c H locs ls C hS hL hl)
theorem r_sipush {n : Int} {v : Int32} (hd : decode cc pc = .ok (.sipush n, 3)) (hv : (Int16.ofInt n).toInt32 = v) (k : Rn G own cc nL ret nm R Z cells slots (pc + 3) lv (.int v :: st) μ) : Rn G own cc nL ret nm R Z cells slots pc lv (st) μ :=
  fun p l e s m args below meth c H locs ls C hS hL hl => lv_sipush C.1 C.2.1 hd hv (k p l e s m args below meth c H locs ls C hS hL hl)
theorem r_lconst {n : Fin 2} {v : Int64} (hd : decode cc pc = .ok (.lconst n, 1)) (hv : Int64.ofNat (n : Nat) = v) (k : Rn G own cc nL ret nm R Z cells slots (pc + 1) lv (.long v :: st) μ) : Rn G own cc nL ret nm R Z cells slots pc lv (st) μ :=
  fun p l e s m args below meth c H locs ls C hS hL hl => lv_lconst C.1 C.2.1 hd hv (k p l e s m args below meth c H locs ls C hS hL hl)
theorem r_iload_n {k0 : Fin 4} {x : Int32} (hd : decode cc pc = .ok (.iload_n k0, 1)) (j : Nat) (hj : lv[j]? = some ((k0 : Nat), .int x)) (k : Rn G own cc nL ret nm R Z cells slots (pc + 1) lv (.int x :: st) μ) : Rn G own cc nL ret nm R Z cells slots pc lv (st) μ :=
  fun p l e s m args below meth c H locs ls C hS hL hl => lv_iload_n C.1 C.2.1 hd rfl (lv_at hl j hj) (k p l e s m args below meth c H locs ls C hS hL hl)
theorem r_iload {i : Nat} {x : Int32} (hd : decode cc pc = .ok (.iload i, 2)) (j : Nat) (hj : lv[j]? = some (i, .int x)) (k : Rn G own cc nL ret nm R Z cells slots (pc + 2) lv (.int x :: st) μ) : Rn G own cc nL ret nm R Z cells slots pc lv (st) μ :=
  fun p l e s m args below meth c H locs ls C hS hL hl => lv_iload C.1 C.2.1 hd (lv_at hl j hj) (k p l e s m args below meth c H locs ls C hS hL hl)
theorem r_lload_n {k0 : Fin 4} {x : Int64} (hd : decode cc pc = .ok (.lload_n k0, 1)) (j : Nat) (hj : lv[j]? = some ((k0 : Nat), .long x)) (k : Rn G own cc nL ret nm R Z cells slots (pc + 1) lv (.long x :: st) μ) : Rn G own cc nL ret nm R Z cells slots pc lv (st) μ :=
  fun p l e s m args below meth c H locs ls C hS hL hl => lv_lload_n C.1 C.2.1 hd rfl (lv_at hl j hj) (k p l e s m args below meth c H locs ls C hS hL hl)
theorem r_lload {i : Nat} {x : Int64} (hd : decode cc pc = .ok (.lload i, 2)) (j : Nat) (hj : lv[j]? = some (i, .long x)) (k : Rn G own cc nL ret nm R Z cells slots (pc + 2) lv (.long x :: st) μ) : Rn G own cc nL ret nm R Z cells slots pc lv (st) μ :=
  fun p l e s m args below meth c H locs ls C hS hL hl => lv_lload C.1 C.2.1 hd (lv_at hl j hj) (k p l e s m args below meth c H locs ls C hS hL hl)
theorem r_aload_n {k0 : Fin 4} {x : Nat} (hd : decode cc pc = .ok (.aload_n k0, 1)) (j : Nat) (hj : lv[j]? = some ((k0 : Nat), .ref x)) (k : Rn G own cc nL ret nm R Z cells slots (pc + 1) lv (.ref x :: st) μ) : Rn G own cc nL ret nm R Z cells slots pc lv (st) μ :=
  fun p l e s m args below meth c H locs ls C hS hL hl => lv_aload_n C.1 C.2.1 hd rfl (lv_at hl j hj) (k p l e s m args below meth c H locs ls C hS hL hl)
theorem r_aload {i : Nat} {x : Nat} (hd : decode cc pc = .ok (.aload i, 2)) (j : Nat) (hj : lv[j]? = some (i, .ref x)) (k : Rn G own cc nL ret nm R Z cells slots (pc + 2) lv (.ref x :: st) μ) : Rn G own cc nL ret nm R Z cells slots pc lv (st) μ :=
  fun p l e s m args below meth c H locs ls C hS hL hl => lv_aload C.1 C.2.1 hd (lv_at hl j hj) (k p l e s m args below meth c H locs ls C hS hL hl)
theorem r_istore_n {k0 : Fin 4} {i : Nat} {x : Int32} {lv' : List (Nat × Value)} (hd : decode cc pc = .ok (.istore_n k0, 1)) (hi : (k0 : Nat) = i) (hn : i < nL) (hlv : (i, Value.int x) :: lv.filter (fun q => !(q.1 == i) && !(q.1 + 1 == i && q.2.category == 2)) = lv') (k : Rn G own cc nL ret nm R Z cells slots (pc + 1) lv' st μ) : Rn G own cc nL ret nm R Z cells slots pc lv (.int x :: st) μ :=
  fun p l e s m args below meth c H locs ls C hS hL hl => lv_istore_n C.1 C.2.1 hd hi hl hn hlv (fun ls' hl' => k p l e s m args below meth c H locs ls' C hS hL hl')
theorem r_istore {i : Nat} {x : Int32} {lv' : List (Nat × Value)} (hd : decode cc pc = .ok (.istore i, 2)) (hn : i < nL) (hlv : (i, Value.int x) :: lv.filter (fun q => !(q.1 == i) && !(q.1 + 1 == i && q.2.category == 2)) = lv') (k : Rn G own cc nL ret nm R Z cells slots (pc + 2) lv' st μ) : Rn G own cc nL ret nm R Z cells slots pc lv (.int x :: st) μ :=
  fun p l e s m args below meth c H locs ls C hS hL hl => lv_istore C.1 C.2.1 hd hl hn hlv (fun ls' hl' => k p l e s m args below meth c H locs ls' C hS hL hl')
theorem r_lstore_n {k0 : Fin 4} {i : Nat} {x : Int64} {lv' : List (Nat × Value)} (hd : decode cc pc = .ok (.lstore_n k0, 1)) (hi : (k0 : Nat) = i) (hn : i + 1 < nL) (hlv : (i, Value.long x) :: lv.filter (fun q => !(q.1 == i) && (!(q.1 == i + 1) && !(q.1 + 1 == i && q.2.category == 2))) = lv') (k : Rn G own cc nL ret nm R Z cells slots (pc + 1) lv' st μ) : Rn G own cc nL ret nm R Z cells slots pc lv (.long x :: st) μ :=
  fun p l e s m args below meth c H locs ls C hS hL hl => lv_lstore_n C.1 C.2.1 hd hi hl hn hlv (fun ls' hl' => k p l e s m args below meth c H locs ls' C hS hL hl')
theorem r_lstore {i : Nat} {x : Int64} {lv' : List (Nat × Value)} (hd : decode cc pc = .ok (.lstore i, 2)) (hn : i + 1 < nL) (hlv : (i, Value.long x) :: lv.filter (fun q => !(q.1 == i) && (!(q.1 == i + 1) && !(q.1 + 1 == i && q.2.category == 2))) = lv') (k : Rn G own cc nL ret nm R Z cells slots (pc + 2) lv' st μ) : Rn G own cc nL ret nm R Z cells slots pc lv (.long x :: st) μ :=
  fun p l e s m args below meth c H locs ls C hS hL hl => lv_lstore C.1 C.2.1 hd hl hn hlv (fun ls' hl' => k p l e s m args below meth c H locs ls' C hS hL hl')
theorem r_astore_n {k0 : Fin 4} {i : Nat} {x : Nat} {lv' : List (Nat × Value)} (hd : decode cc pc = .ok (.astore_n k0, 1)) (hi : (k0 : Nat) = i) (hn : i < nL) (hlv : (i, Value.ref x) :: lv.filter (fun q => !(q.1 == i) && !(q.1 + 1 == i && q.2.category == 2)) = lv') (k : Rn G own cc nL ret nm R Z cells slots (pc + 1) lv' st μ) : Rn G own cc nL ret nm R Z cells slots pc lv (.ref x :: st) μ :=
  fun p l e s m args below meth c H locs ls C hS hL hl => lv_astore_n C.1 C.2.1 hd hi hl hn hlv (fun ls' hl' => k p l e s m args below meth c H locs ls' C hS hL hl')
theorem r_astore {i : Nat} {x : Nat} {lv' : List (Nat × Value)} (hd : decode cc pc = .ok (.astore i, 2)) (hn : i < nL) (hlv : (i, Value.ref x) :: lv.filter (fun q => !(q.1 == i) && !(q.1 + 1 == i && q.2.category == 2)) = lv') (k : Rn G own cc nL ret nm R Z cells slots (pc + 2) lv' st μ) : Rn G own cc nL ret nm R Z cells slots pc lv (.ref x :: st) μ :=
  fun p l e s m args below meth c H locs ls C hS hL hl => lv_astore C.1 C.2.1 hd hl hn hlv (fun ls' hl' => k p l e s m args below meth c H locs ls' C hS hL hl')
theorem r_iinc {i j : Nat} {n : Int} {x v : Int32} {lv' : List (Nat × Value)} (hd : decode cc pc = .ok (.iinc i n, 3)) (hk : lv[j]? = some (i, .int x)) (hv : x + Int32.ofInt n = v) (hn : i < nL) (hlv : (i, Value.int v) :: lv.filter (fun q => !(q.1 == i) && !(q.1 + 1 == i && q.2.category == 2)) = lv') (k : Rn G own cc nL ret nm R Z cells slots (pc + 3) lv' st μ) : Rn G own cc nL ret nm R Z cells slots pc lv st μ :=
  fun p l e s m args below meth c H locs ls C hS hL hl => lv_iinc C.1 C.2.1 hd hl hk hv hn hlv (fun ls' hl' => k p l e s m args below meth c H locs ls' C hS hL hl')
theorem r_iadd {x y : Int32} (hd : decode cc pc = .ok (.iadd, 1))  (k : Rn G own cc nL ret nm R Z cells slots (pc + 1) lv (.int (x + y) :: st) μ) : Rn G own cc nL ret nm R Z cells slots pc lv (.int y :: .int x :: st) μ :=
  fun p l e s m args below meth c H locs ls C hS hL hl => lv_iadd C.1 C.2.1 hd (k p l e s m args below meth c H locs ls C hS hL hl)
theorem r_isub {x y : Int32} (hd : decode cc pc = .ok (.isub, 1))  (k : Rn G own cc nL ret nm R Z cells slots (pc + 1) lv (.int (x - y) :: st) μ) : Rn G own cc nL ret nm R Z cells slots pc lv (.int y :: .int x :: st) μ :=
  fun p l e s m args below meth c H locs ls C hS hL hl => lv_isub C.1 C.2.1 hd (k p l e s m args below meth c H locs ls C hS hL hl)
theorem r_imul {x y : Int32} (hd : decode cc pc = .ok (.imul, 1))  (k : Rn G own cc nL ret nm R Z cells slots (pc + 1) lv (.int (x * y) :: st) μ) : Rn G own cc nL ret nm R Z cells slots pc lv (.int y :: .int x :: st) μ :=
  fun p l e s m args below meth c H locs ls C hS hL hl => lv_imul C.1 C.2.1 hd (k p l e s m args below meth c H locs ls C hS hL hl)
theorem r_iand {x y : Int32} (hd : decode cc pc = .ok (.iand, 1))  (k : Rn G own cc nL ret nm R Z cells slots (pc + 1) lv (.int (x &&& y) :: st) μ) : Rn G own cc nL ret nm R Z cells slots pc lv (.int y :: .int x :: st) μ :=
  fun p l e s m args below meth c H locs ls C hS hL hl => lv_iand C.1 C.2.1 hd (k p l e s m args below meth c H locs ls C hS hL hl)
theorem r_ior {x y : Int32} (hd : decode cc pc = .ok (.ior, 1))  (k : Rn G own cc nL ret nm R Z cells slots (pc + 1) lv (.int (x ||| y) :: st) μ) : Rn G own cc nL ret nm R Z cells slots pc lv (.int y :: .int x :: st) μ :=
  fun p l e s m args below meth c H locs ls C hS hL hl => lv_ior C.1 C.2.1 hd (k p l e s m args below meth c H locs ls C hS hL hl)
theorem r_ixor {x y : Int32} (hd : decode cc pc = .ok (.ixor, 1))  (k : Rn G own cc nL ret nm R Z cells slots (pc + 1) lv (.int (x ^^^ y) :: st) μ) : Rn G own cc nL ret nm R Z cells slots pc lv (.int y :: .int x :: st) μ :=
  fun p l e s m args below meth c H locs ls C hS hL hl => lv_ixor C.1 C.2.1 hd (k p l e s m args below meth c H locs ls C hS hL hl)
theorem r_ishl {x y : Int32} (hd : decode cc pc = .ok (.ishl, 1))  (k : Rn G own cc nL ret nm R Z cells slots (pc + 1) lv (.int (x <<< (y &&& 31)) :: st) μ) : Rn G own cc nL ret nm R Z cells slots pc lv (.int y :: .int x :: st) μ :=
  fun p l e s m args below meth c H locs ls C hS hL hl => lv_ishl C.1 C.2.1 hd (k p l e s m args below meth c H locs ls C hS hL hl)
theorem r_ishr {x y : Int32} (hd : decode cc pc = .ok (.ishr, 1))  (k : Rn G own cc nL ret nm R Z cells slots (pc + 1) lv (.int (x >>> (y &&& 31)) :: st) μ) : Rn G own cc nL ret nm R Z cells slots pc lv (.int y :: .int x :: st) μ :=
  fun p l e s m args below meth c H locs ls C hS hL hl => lv_ishr C.1 C.2.1 hd (k p l e s m args below meth c H locs ls C hS hL hl)
theorem r_idiv {x y : Int32} (hd : decode cc pc = .ok (.idiv, 1)) (hne : ¬ y = 0) (k : Rn G own cc nL ret nm R Z cells slots (pc + 1) lv (.int (x / y) :: st) μ) : Rn G own cc nL ret nm R Z cells slots pc lv (.int y :: .int x :: st) μ :=
  fun p l e s m args below meth c H locs ls C hS hL hl => lv_idiv C.1 C.2.1 hd hne (k p l e s m args below meth c H locs ls C hS hL hl)
theorem r_irem {x y : Int32} (hd : decode cc pc = .ok (.irem, 1)) (hne : ¬ y = 0) (k : Rn G own cc nL ret nm R Z cells slots (pc + 1) lv (.int (x - x / y * y) :: st) μ) : Rn G own cc nL ret nm R Z cells slots pc lv (.int y :: .int x :: st) μ :=
  fun p l e s m args below meth c H locs ls C hS hL hl => lv_irem C.1 C.2.1 hd hne (k p l e s m args below meth c H locs ls C hS hL hl)
theorem r_iushr {x y : Int32} (hd : decode cc pc = .ok (.iushr, 1))  (k : Rn G own cc nL ret nm R Z cells slots (pc + 1) lv (.int (x.toUInt32 >>> (y.toUInt32 &&& Int32.toUInt32 31)).toInt32 :: st) μ) : Rn G own cc nL ret nm R Z cells slots pc lv (.int y :: .int x :: st) μ :=
  fun p l e s m args below meth c H locs ls C hS hL hl => lv_iushr C.1 C.2.1 hd rfl (k p l e s m args below meth c H locs ls C hS hL hl)
theorem r_ladd {x y : Int64} (hd : decode cc pc = .ok (.ladd, 1))  (k : Rn G own cc nL ret nm R Z cells slots (pc + 1) lv (.long (x + y) :: st) μ) : Rn G own cc nL ret nm R Z cells slots pc lv (.long y :: .long x :: st) μ :=
  fun p l e s m args below meth c H locs ls C hS hL hl => lv_ladd C.1 C.2.1 hd (k p l e s m args below meth c H locs ls C hS hL hl)
theorem r_lsub {x y : Int64} (hd : decode cc pc = .ok (.lsub, 1))  (k : Rn G own cc nL ret nm R Z cells slots (pc + 1) lv (.long (x - y) :: st) μ) : Rn G own cc nL ret nm R Z cells slots pc lv (.long y :: .long x :: st) μ :=
  fun p l e s m args below meth c H locs ls C hS hL hl => lv_lsub C.1 C.2.1 hd (k p l e s m args below meth c H locs ls C hS hL hl)
theorem r_lmul {x y : Int64} (hd : decode cc pc = .ok (.lmul, 1))  (k : Rn G own cc nL ret nm R Z cells slots (pc + 1) lv (.long (x * y) :: st) μ) : Rn G own cc nL ret nm R Z cells slots pc lv (.long y :: .long x :: st) μ :=
  fun p l e s m args below meth c H locs ls C hS hL hl => lv_lmul C.1 C.2.1 hd (k p l e s m args below meth c H locs ls C hS hL hl)
theorem r_land {x y : Int64} (hd : decode cc pc = .ok (.land, 1))  (k : Rn G own cc nL ret nm R Z cells slots (pc + 1) lv (.long (x &&& y) :: st) μ) : Rn G own cc nL ret nm R Z cells slots pc lv (.long y :: .long x :: st) μ :=
  fun p l e s m args below meth c H locs ls C hS hL hl => lv_land C.1 C.2.1 hd (k p l e s m args below meth c H locs ls C hS hL hl)
theorem r_lor {x y : Int64} (hd : decode cc pc = .ok (.lor, 1))  (k : Rn G own cc nL ret nm R Z cells slots (pc + 1) lv (.long (x ||| y) :: st) μ) : Rn G own cc nL ret nm R Z cells slots pc lv (.long y :: .long x :: st) μ :=
  fun p l e s m args below meth c H locs ls C hS hL hl => lv_lor C.1 C.2.1 hd (k p l e s m args below meth c H locs ls C hS hL hl)
theorem r_lxor {x y : Int64} (hd : decode cc pc = .ok (.lxor, 1))  (k : Rn G own cc nL ret nm R Z cells slots (pc + 1) lv (.long (x ^^^ y) :: st) μ) : Rn G own cc nL ret nm R Z cells slots pc lv (.long y :: .long x :: st) μ :=
  fun p l e s m args below meth c H locs ls C hS hL hl => lv_lxor C.1 C.2.1 hd (k p l e s m args below meth c H locs ls C hS hL hl)
theorem r_ldiv {x y : Int64} (hd : decode cc pc = .ok (.ldiv, 1)) (hne : ¬ y = 0) (k : Rn G own cc nL ret nm R Z cells slots (pc + 1) lv (.long (x / y) :: st) μ) : Rn G own cc nL ret nm R Z cells slots pc lv (.long y :: .long x :: st) μ :=
  fun p l e s m args below meth c H locs ls C hS hL hl => lv_ldiv C.1 C.2.1 hd hne (k p l e s m args below meth c H locs ls C hS hL hl)
theorem r_lrem {x y : Int64} (hd : decode cc pc = .ok (.lrem, 1)) (hne : ¬ y = 0) (k : Rn G own cc nL ret nm R Z cells slots (pc + 1) lv (.long (x - x / y * y) :: st) μ) : Rn G own cc nL ret nm R Z cells slots pc lv (.long y :: .long x :: st) μ :=
  fun p l e s m args below meth c H locs ls C hS hL hl => lv_lrem C.1 C.2.1 hd hne (k p l e s m args below meth c H locs ls C hS hL hl)
theorem r_lshl {x : Int64} {y : Int32} (hd : decode cc pc = .ok (.lshl, 1))  (k : Rn G own cc nL ret nm R Z cells slots (pc + 1) lv (.long (x <<< (y.toInt64 &&& 63)) :: st) μ) : Rn G own cc nL ret nm R Z cells slots pc lv (.int y :: .long x :: st) μ :=
  fun p l e s m args below meth c H locs ls C hS hL hl => lv_lshl C.1 C.2.1 hd rfl (k p l e s m args below meth c H locs ls C hS hL hl)
theorem r_lshr {x : Int64} {y : Int32} (hd : decode cc pc = .ok (.lshr, 1))  (k : Rn G own cc nL ret nm R Z cells slots (pc + 1) lv (.long (x >>> (y.toInt64 &&& 63)) :: st) μ) : Rn G own cc nL ret nm R Z cells slots pc lv (.int y :: .long x :: st) μ :=
  fun p l e s m args below meth c H locs ls C hS hL hl => lv_lshr C.1 C.2.1 hd rfl (k p l e s m args below meth c H locs ls C hS hL hl)
theorem r_lushr {x : Int64} {y : Int32} (hd : decode cc pc = .ok (.lushr, 1))  (k : Rn G own cc nL ret nm R Z cells slots (pc + 1) lv (.long (x.toUInt64 >>> (y.toInt64.toUInt64 &&& Int64.toUInt64 63)).toInt64 :: st) μ) : Rn G own cc nL ret nm R Z cells slots pc lv (.int y :: .long x :: st) μ :=
  fun p l e s m args below meth c H locs ls C hS hL hl => lv_lushr C.1 C.2.1 hd rfl (k p l e s m args below meth c H locs ls C hS hL hl)
theorem r_i2l {x : Int32} (hd : decode cc pc = .ok (.i2l, 1))  (k : Rn G own cc nL ret nm R Z cells slots (pc + 1) lv (.long x.toInt64 :: st) μ) : Rn G own cc nL ret nm R Z cells slots pc lv (.int x :: st) μ :=
  fun p l e s m args below meth c H locs ls C hS hL hl => lv_i2l C.1 C.2.1 hd rfl (k p l e s m args below meth c H locs ls C hS hL hl)
theorem r_l2i {x : Int64} (hd : decode cc pc = .ok (.l2i, 1))  (k : Rn G own cc nL ret nm R Z cells slots (pc + 1) lv (.int x.toInt32 :: st) μ) : Rn G own cc nL ret nm R Z cells slots pc lv (.long x :: st) μ :=
  fun p l e s m args below meth c H locs ls C hS hL hl => lv_l2i C.1 C.2.1 hd rfl (k p l e s m args below meth c H locs ls C hS hL hl)
theorem r_i2b {x : Int32} (hd : decode cc pc = .ok (.i2b, 1))  (k : Rn G own cc nL ret nm R Z cells slots (pc + 1) lv (.int x.toInt8.toInt32 :: st) μ) : Rn G own cc nL ret nm R Z cells slots pc lv (.int x :: st) μ :=
  fun p l e s m args below meth c H locs ls C hS hL hl => lv_i2b C.1 C.2.1 hd rfl (k p l e s m args below meth c H locs ls C hS hL hl)
theorem r_dup {va : Value} (hd : decode cc pc = .ok (.dup, 1)) (hva : va.category = 1) (k : Rn G own cc nL ret nm R Z cells slots (pc + 1) lv (va :: va :: st) μ) : Rn G own cc nL ret nm R Z cells slots pc lv (va :: st) μ :=
  fun p l e s m args below meth c H locs ls C hS hL hl => lv_dup C.1 C.2.1 hd hva (k p l e s m args below meth c H locs ls C hS hL hl)
theorem r_pop {va : Value} (hd : decode cc pc = .ok (.pop, 1)) (hva : va.category = 1) (k : Rn G own cc nL ret nm R Z cells slots (pc + 1) lv (st) μ) : Rn G own cc nL ret nm R Z cells slots pc lv (va :: st) μ :=
  fun p l e s m args below meth c H locs ls C hS hL hl => lv_pop C.1 C.2.1 hd hva (k p l e s m args below meth c H locs ls C hS hL hl)
theorem r_dup2_11 {va vb : Value} (hd : decode cc pc = .ok (.dup2, 1)) (hva : va.category = 1) (hvb : vb.category = 1) (k : Rn G own cc nL ret nm R Z cells slots (pc + 1) lv (va :: vb :: va :: vb :: st) μ) : Rn G own cc nL ret nm R Z cells slots pc lv (va :: vb :: st) μ :=
  fun p l e s m args below meth c H locs ls C hS hL hl => lv_dup2_11 C.1 C.2.1 hd hva hvb (k p l e s m args below meth c H locs ls C hS hL hl)
theorem r_lcmp {x y : Int64} (hd : decode cc pc = .ok (.lcmp, 1)) (k : Rn G own cc nL ret nm R Z cells slots (pc + 1) lv (.int (lg_cmp x y) :: st) μ) : Rn G own cc nL ret nm R Z cells slots pc lv (.long y :: .long x :: st) μ :=
  fun p l e s m args below meth c H locs ls C hS hL hl => W.lcmp C.1 C.2.1 hd (k p l e s m args below meth c H locs ls C hS hL hl)
theorem r_goto {off : Int} (tgt : Nat) (hd : decode cc pc = .ok (.goto off, 3)) (ht : (pc : Int) + off = (tgt : Int)) (k : Rn G own cc nL ret nm R Z cells slots tgt lv st μ) : Rn G own cc nL ret nm R Z cells slots pc lv st μ :=
  fun p l e s m args below meth c H locs ls C hS hL hl => lv_goto C.1 C.2.1 hd ht (k p l e s m args below meth c H locs ls C hS hL hl)
theorem r_if_eq {x : Int32} {off : Int} (tgt : Nat) (hd : decode cc pc = .ok (.ifCond .eq off, 3)) (ht : (pc : Int) + off = (tgt : Int)) (kt : x = 0 → Rn G own cc nL ret nm R Z cells slots tgt lv st μ) (kf : ¬ x = 0 → Rn G own cc nL ret nm R Z cells slots (pc + 3) lv st μ) : Rn G own cc nL ret nm R Z cells slots pc lv (.int x :: st) μ :=
  fun p l e s m args below meth c H locs ls C hS hL hl => lv_if_eq C.1 C.2.1 hd ht (fun h => kt h p l e s m args below meth c H locs ls C hS hL hl) (fun h => kf h p l e s m args below meth c H locs ls C hS hL hl)
theorem r_icmp_eq {x y : Int32} {off : Int} (tgt : Nat) (hd : decode cc pc = .ok (.if_icmp .eq off, 3)) (ht : (pc : Int) + off = (tgt : Int)) (kt : x = y → Rn G own cc nL ret nm R Z cells slots tgt lv st μ) (kf : ¬ x = y → Rn G own cc nL ret nm R Z cells slots (pc + 3) lv st μ) : Rn G own cc nL ret nm R Z cells slots pc lv (.int y :: .int x :: st) μ :=
  fun p l e s m args below meth c H locs ls C hS hL hl => lv_icmp_eq C.1 C.2.1 hd ht (fun h => kt h p l e s m args below meth c H locs ls C hS hL hl) (fun h => kf h p l e s m args below meth c H locs ls C hS hL hl)
theorem r_if_ne {x : Int32} {off : Int} (tgt : Nat) (hd : decode cc pc = .ok (.ifCond .ne off, 3)) (ht : (pc : Int) + off = (tgt : Int)) (kt : ¬ x = 0 → Rn G own cc nL ret nm R Z cells slots tgt lv st μ) (kf : x = 0 → Rn G own cc nL ret nm R Z cells slots (pc + 3) lv st μ) : Rn G own cc nL ret nm R Z cells slots pc lv (.int x :: st) μ :=
  fun p l e s m args below meth c H locs ls C hS hL hl => lv_if_ne C.1 C.2.1 hd ht (fun h => kt h p l e s m args below meth c H locs ls C hS hL hl) (fun h => kf h p l e s m args below meth c H locs ls C hS hL hl)
theorem r_icmp_ne {x y : Int32} {off : Int} (tgt : Nat) (hd : decode cc pc = .ok (.if_icmp .ne off, 3)) (ht : (pc : Int) + off = (tgt : Int)) (kt : ¬ x = y → Rn G own cc nL ret nm R Z cells slots tgt lv st μ) (kf : x = y → Rn G own cc nL ret nm R Z cells slots (pc + 3) lv st μ) : Rn G own cc nL ret nm R Z cells slots pc lv (.int y :: .int x :: st) μ :=
  fun p l e s m args below meth c H locs ls C hS hL hl => lv_icmp_ne C.1 C.2.1 hd ht (fun h => kt h p l e s m args below meth c H locs ls C hS hL hl) (fun h => kf h p l e s m args below meth c H locs ls C hS hL hl)
theorem r_if_lt {x : Int32} {off : Int} (tgt : Nat) (hd : decode cc pc = .ok (.ifCond .lt off, 3)) (ht : (pc : Int) + off = (tgt : Int)) (kt : x < 0 → Rn G own cc nL ret nm R Z cells slots tgt lv st μ) (kf : ¬ x < 0 → Rn G own cc nL ret nm R Z cells slots (pc + 3) lv st μ) : Rn G own cc nL ret nm R Z cells slots pc lv (.int x :: st) μ :=
  fun p l e s m args below meth c H locs ls C hS hL hl => lv_if_lt C.1 C.2.1 hd ht (fun h => kt h p l e s m args below meth c H locs ls C hS hL hl) (fun h => kf h p l e s m args below meth c H locs ls C hS hL hl)
theorem r_icmp_lt {x y : Int32} {off : Int} (tgt : Nat) (hd : decode cc pc = .ok (.if_icmp .lt off, 3)) (ht : (pc : Int) + off = (tgt : Int)) (kt : x < y → Rn G own cc nL ret nm R Z cells slots tgt lv st μ) (kf : ¬ x < y → Rn G own cc nL ret nm R Z cells slots (pc + 3) lv st μ) : Rn G own cc nL ret nm R Z cells slots pc lv (.int y :: .int x :: st) μ :=
  fun p l e s m args below meth c H locs ls C hS hL hl => lv_icmp_lt C.1 C.2.1 hd ht (fun h => kt h p l e s m args below meth c H locs ls C hS hL hl) (fun h => kf h p l e s m args below meth c H locs ls C hS hL hl)
theorem r_if_ge {x : Int32} {off : Int} (tgt : Nat) (hd : decode cc pc = .ok (.ifCond .ge off, 3)) (ht : (pc : Int) + off = (tgt : Int)) (kt : 0 ≤ x → Rn G own cc nL ret nm R Z cells slots tgt lv st μ) (kf : ¬ 0 ≤ x → Rn G own cc nL ret nm R Z cells slots (pc + 3) lv st μ) : Rn G own cc nL ret nm R Z cells slots pc lv (.int x :: st) μ :=
  fun p l e s m args below meth c H locs ls C hS hL hl => lv_if_ge C.1 C.2.1 hd ht (fun h => kt h p l e s m args below meth c H locs ls C hS hL hl) (fun h => kf h p l e s m args below meth c H locs ls C hS hL hl)
theorem r_icmp_ge {x y : Int32} {off : Int} (tgt : Nat) (hd : decode cc pc = .ok (.if_icmp .ge off, 3)) (ht : (pc : Int) + off = (tgt : Int)) (kt : y ≤ x → Rn G own cc nL ret nm R Z cells slots tgt lv st μ) (kf : ¬ y ≤ x → Rn G own cc nL ret nm R Z cells slots (pc + 3) lv st μ) : Rn G own cc nL ret nm R Z cells slots pc lv (.int y :: .int x :: st) μ :=
  fun p l e s m args below meth c H locs ls C hS hL hl => lv_icmp_ge C.1 C.2.1 hd ht (fun h => kt h p l e s m args below meth c H locs ls C hS hL hl) (fun h => kf h p l e s m args below meth c H locs ls C hS hL hl)
theorem r_if_gt {x : Int32} {off : Int} (tgt : Nat) (hd : decode cc pc = .ok (.ifCond .gt off, 3)) (ht : (pc : Int) + off = (tgt : Int)) (kt : 0 < x → Rn G own cc nL ret nm R Z cells slots tgt lv st μ) (kf : ¬ 0 < x → Rn G own cc nL ret nm R Z cells slots (pc + 3) lv st μ) : Rn G own cc nL ret nm R Z cells slots pc lv (.int x :: st) μ :=
  fun p l e s m args below meth c H locs ls C hS hL hl => lv_if_gt C.1 C.2.1 hd ht (fun h => kt h p l e s m args below meth c H locs ls C hS hL hl) (fun h => kf h p l e s m args below meth c H locs ls C hS hL hl)
theorem r_icmp_gt {x y : Int32} {off : Int} (tgt : Nat) (hd : decode cc pc = .ok (.if_icmp .gt off, 3)) (ht : (pc : Int) + off = (tgt : Int)) (kt : y < x → Rn G own cc nL ret nm R Z cells slots tgt lv st μ) (kf : ¬ y < x → Rn G own cc nL ret nm R Z cells slots (pc + 3) lv st μ) : Rn G own cc nL ret nm R Z cells slots pc lv (.int y :: .int x :: st) μ :=
  fun p l e s m args below meth c H locs ls C hS hL hl => lv_icmp_gt C.1 C.2.1 hd ht (fun h => kt h p l e s m args below meth c H locs ls C hS hL hl) (fun h => kf h p l e s m args below meth c H locs ls C hS hL hl)
theorem r_if_le {x : Int32} {off : Int} (tgt : Nat) (hd : decode cc pc = .ok (.ifCond .le off, 3)) (ht : (pc : Int) + off = (tgt : Int)) (kt : x ≤ 0 → Rn G own cc nL ret nm R Z cells slots tgt lv st μ) (kf : ¬ x ≤ 0 → Rn G own cc nL ret nm R Z cells slots (pc + 3) lv st μ) : Rn G own cc nL ret nm R Z cells slots pc lv (.int x :: st) μ :=
  fun p l e s m args below meth c H locs ls C hS hL hl => lv_if_le C.1 C.2.1 hd ht (fun h => kt h p l e s m args below meth c H locs ls C hS hL hl) (fun h => kf h p l e s m args below meth c H locs ls C hS hL hl)
theorem r_icmp_le {x y : Int32} {off : Int} (tgt : Nat) (hd : decode cc pc = .ok (.if_icmp .le off, 3)) (ht : (pc : Int) + off = (tgt : Int)) (kt : x ≤ y → Rn G own cc nL ret nm R Z cells slots tgt lv st μ) (kf : ¬ x ≤ y → Rn G own cc nL ret nm R Z cells slots (pc + 3) lv st μ) : Rn G own cc nL ret nm R Z cells slots pc lv (.int y :: .int x :: st) μ :=
  fun p l e s m args below meth c H locs ls C hS hL hl => lv_icmp_le C.1 C.2.1 hd ht (fun h => kt h p l e s m args below meth c H locs ls C hS hL hl) (fun h => kf h p l e s m args below meth c H locs ls C hS hL hl)
theorem r_ldc {index : Nat} {v : Int32} (hd : decode cc pc = .ok (.ldc index, 2)) (hc : Cond.constant own index v ∈ lw_ok) (k : Rn G own cc nL ret nm R Z cells slots (pc + 2) lv (.int v :: st) μ) : Rn G own cc nL ret nm R Z cells slots pc lv st μ :=
  fun p l e s m args below meth c H locs ls C hS hL hl => lv_ldc C.1 C.2.1 C.2.2.2.2.2.1 (C.2.2.2.2.2.2.1 _ hc) hd (k p l e s m args below meth c H locs ls C hS hL hl)
theorem r_ldcw {index : Nat} {v : Int32} (hd : decode cc pc = .ok (.ldc_w index, 3)) (hc : Cond.constant own index v ∈ lw_ok) (k : Rn G own cc nL ret nm R Z cells slots (pc + 3) lv (.int v :: st) μ) : Rn G own cc nL ret nm R Z cells slots pc lv st μ :=
  fun p l e s m args below meth c H locs ls C hS hL hl => lv_ldcw C.1 C.2.1 C.2.2.2.2.2.1 (C.2.2.2.2.2.2.1 _ hc) hd (k p l e s m args below meth c H locs ls C hS hL hl)
theorem r_ldc2 {index : Nat} {v : Int64} (hd : decode cc pc = .ok (.ldc2_w index, 3)) (hc : Cond.constantLong own index v ∈ lw_ok) (k : Rn G own cc nL ret nm R Z cells slots (pc + 3) lv (.long v :: st) μ) : Rn G own cc nL ret nm R Z cells slots pc lv st μ :=
  fun p l e s m args below meth c H locs ls C hS hL hl => lv_ldc2 C.1 C.2.1 C.2.2.2.2.2.1 (C.2.2.2.2.2.2.1 _ hc) hd (k p l e s m args below meth c H locs ls C hS hL hl)
theorem r_ldcS {index : Nat} (i : Nat) (hi : i < 14) (ho : s_own i = own) (hx : s_ix i = index) (hd : decode cc pc = .ok (.ldc index, 2)) (k : Rn G own cc nL ret nm R Z cells slots (pc + 2) lv (.ref (mm_S μ i) :: st) μ) : Rn G own cc nL ret nm R Z cells slots pc lv st μ :=
  fun p l e s m args below meth c H locs ls C hS hL hl => by
    have h := C.2.2.2.2.2.2.2.2.1 i hi
    rw [ho, hx, ← hS.2.2.2.2.2.1] at h
    exact va_ldcS C.1 C.2.1 C.2.2.2.2.2.1 h hd (k p l e s m args below meth c H locs ls C hS hL hl)
/-- a switch: one of its cases, or none -/
theorem r_tabIn {dflt lo hi : Int} {offs : Array Int} {len : Nat} {x v : Int32} (hx : x = v) (off : Int) (tgt : Nat) (hd : decode cc pc = .ok (.tableswitch dflt lo hi offs, len)) (h1 : ¬ v.toInt < lo) (h2 : ¬ hi < v.toInt) (ho : offs[(v.toInt - lo).toNat]? = some off) (ht : (pc : Int) + off = (tgt : Int)) (k : Rn G own cc nL ret nm R Z cells slots tgt lv st μ) : Rn G own cc nL ret nm R Z cells slots pc lv (.int x :: st) μ :=
  fun p l e s m args below meth c H locs ls C hS hL hl => by
    subst hx
    exact lv_tableIn C.1 C.2.1 hd h1 h2 ho ht (k p l e s m args below meth c H locs ls C hS hL hl)
theorem r_tabOut {dflt lo hi : Int} {offs : Array Int} {len : Nat} {x : Int32} (tgt : Nat) (hd : decode cc pc = .ok (.tableswitch dflt lo hi offs, len)) (h : x.toInt < lo ∨ hi < x.toInt) (ht : (pc : Int) + dflt = (tgt : Int)) (k : Rn G own cc nL ret nm R Z cells slots tgt lv st μ) : Rn G own cc nL ret nm R Z cells slots pc lv (.int x :: st) μ :=
  fun p l e s m args below meth c H locs ls C hS hL hl => lv_tableOut C.1 C.2.1 hd h ht (k p l e s m args below meth c H locs ls C hS hL hl)
/-- fewer locals, in another order -/
theorem r_sub {lv' : List (Nat × Value)} (ks : List Nat) (h : lv_pick lv ks = lv') (k : Rn G own cc nL ret nm R Z cells slots pc lv' st μ) : Rn G own cc nL ret nm R Z cells slots pc lv st μ :=
  fun p l e s m args below meth c H locs ls C hS hL hl => k p l e s m args below meth c H locs ls C hS hL (lv_sub hl ks h)
theorem r_widen {k1 n1 : Nat} (h1 : cells ≤ k1) (h2 : slots ≤ n1) (k : Rn G own cc nL ret nm R Z k1 n1 pc lv st μ) : Rn G own cc nL ret nm R Z cells slots pc lv st μ :=
  fun p l e s m args below meth c H locs ls C hS hL hl => W.widen h1 h2 (k p l e s m args below meth c H locs ls C hS hL hl)
end RN
