theorem dJ6_bitCount_0f7a4_0 : decode cJ6_bitCount_0f7a4 0 = .ok (.iload_n 0, 1) := by decide +kernel
theorem dJ6_bitCount_0f7a4_1 : decode cJ6_bitCount_0f7a4 1 = .ok (.iload_n 0, 1) := by decide +kernel
theorem dJ6_bitCount_0f7a4_2 : decode cJ6_bitCount_0f7a4 2 = .ok (.iconst 1, 1) := by decide +kernel
theorem dJ6_bitCount_0f7a4_3 : decode cJ6_bitCount_0f7a4 3 = .ok (.iushr, 1) := by decide +kernel
theorem dJ6_bitCount_0f7a4_4 : decode cJ6_bitCount_0f7a4 4 = .ok (.ldc_w 265, 3) := by decide +kernel
theorem dJ6_bitCount_0f7a4_7 : decode cJ6_bitCount_0f7a4 7 = .ok (.iand, 1) := by decide +kernel
theorem dJ6_bitCount_0f7a4_8 : decode cJ6_bitCount_0f7a4 8 = .ok (.isub, 1) := by decide +kernel
theorem dJ6_bitCount_0f7a4_9 : decode cJ6_bitCount_0f7a4 9 = .ok (.istore_n 0, 1) := by decide +kernel
theorem dJ6_bitCount_0f7a4_10 : decode cJ6_bitCount_0f7a4 10 = .ok (.iload_n 0, 1) := by decide +kernel
theorem dJ6_bitCount_0f7a4_11 : decode cJ6_bitCount_0f7a4 11 = .ok (.ldc_w 266, 3) := by decide +kernel
theorem dJ6_bitCount_0f7a4_14 : decode cJ6_bitCount_0f7a4 14 = .ok (.iand, 1) := by decide +kernel
theorem dJ6_bitCount_0f7a4_15 : decode cJ6_bitCount_0f7a4 15 = .ok (.iload_n 0, 1) := by decide +kernel
theorem dJ6_bitCount_0f7a4_16 : decode cJ6_bitCount_0f7a4 16 = .ok (.iconst 2, 1) := by decide +kernel
theorem dJ6_bitCount_0f7a4_17 : decode cJ6_bitCount_0f7a4 17 = .ok (.iushr, 1) := by decide +kernel
theorem dJ6_bitCount_0f7a4_18 : decode cJ6_bitCount_0f7a4 18 = .ok (.ldc_w 266, 3) := by decide +kernel
theorem dJ6_bitCount_0f7a4_21 : decode cJ6_bitCount_0f7a4 21 = .ok (.iand, 1) := by decide +kernel
theorem dJ6_bitCount_0f7a4_22 : decode cJ6_bitCount_0f7a4 22 = .ok (.iadd, 1) := by decide +kernel
theorem dJ6_bitCount_0f7a4_23 : decode cJ6_bitCount_0f7a4 23 = .ok (.istore_n 0, 1) := by decide +kernel
theorem dJ6_bitCount_0f7a4_24 : decode cJ6_bitCount_0f7a4 24 = .ok (.iload_n 0, 1) := by decide +kernel
theorem dJ6_bitCount_0f7a4_25 : decode cJ6_bitCount_0f7a4 25 = .ok (.iload_n 0, 1) := by decide +kernel
theorem dJ6_bitCount_0f7a4_26 : decode cJ6_bitCount_0f7a4 26 = .ok (.iconst 4, 1) := by decide +kernel
theorem dJ6_bitCount_0f7a4_27 : decode cJ6_bitCount_0f7a4 27 = .ok (.iushr, 1) := by decide +kernel
theorem dJ6_bitCount_0f7a4_28 : decode cJ6_bitCount_0f7a4 28 = .ok (.iadd, 1) := by decide +kernel
theorem dJ6_bitCount_0f7a4_29 : decode cJ6_bitCount_0f7a4 29 = .ok (.ldc_w 267, 3) := by decide +kernel
theorem dJ6_bitCount_0f7a4_32 : decode cJ6_bitCount_0f7a4 32 = .ok (.iand, 1) := by decide +kernel
theorem dJ6_bitCount_0f7a4_33 : decode cJ6_bitCount_0f7a4 33 = .ok (.istore_n 0, 1) := by decide +kernel
theorem dJ6_bitCount_0f7a4_34 : decode cJ6_bitCount_0f7a4 34 = .ok (.iload_n 0, 1) := by decide +kernel
theorem dJ6_bitCount_0f7a4_35 : decode cJ6_bitCount_0f7a4 35 = .ok (.iload_n 0, 1) := by decide +kernel
theorem dJ6_bitCount_0f7a4_36 : decode cJ6_bitCount_0f7a4 36 = .ok (.bipush 8, 2) := by decide +kernel
theorem dJ6_bitCount_0f7a4_38 : decode cJ6_bitCount_0f7a4 38 = .ok (.iushr, 1) := by decide +kernel
theorem dJ6_bitCount_0f7a4_39 : decode cJ6_bitCount_0f7a4 39 = .ok (.iadd, 1) := by decide +kernel
theorem dJ6_bitCount_0f7a4_40 : decode cJ6_bitCount_0f7a4 40 = .ok (.istore_n 0, 1) := by decide +kernel
theorem dJ6_bitCount_0f7a4_41 : decode cJ6_bitCount_0f7a4 41 = .ok (.iload_n 0, 1) := by decide +kernel
theorem dJ6_bitCount_0f7a4_42 : decode cJ6_bitCount_0f7a4 42 = .ok (.iload_n 0, 1) := by decide +kernel
theorem dJ6_bitCount_0f7a4_43 : decode cJ6_bitCount_0f7a4 43 = .ok (.bipush 16, 2) := by decide +kernel
theorem dJ6_bitCount_0f7a4_45 : decode cJ6_bitCount_0f7a4 45 = .ok (.iushr, 1) := by decide +kernel
theorem dJ6_bitCount_0f7a4_46 : decode cJ6_bitCount_0f7a4 46 = .ok (.iadd, 1) := by decide +kernel
theorem dJ6_bitCount_0f7a4_47 : decode cJ6_bitCount_0f7a4 47 = .ok (.istore_n 0, 1) := by decide +kernel
theorem dJ6_bitCount_0f7a4_48 : decode cJ6_bitCount_0f7a4 48 = .ok (.iload_n 0, 1) := by decide +kernel
theorem dJ6_bitCount_0f7a4_49 : decode cJ6_bitCount_0f7a4 49 = .ok (.bipush 63, 2) := by decide +kernel
theorem dJ6_bitCount_0f7a4_51 : decode cJ6_bitCount_0f7a4 51 = .ok (.iand, 1) := by decide +kernel
theorem dJ6_bitCount_0f7a4_52 : decode cJ6_bitCount_0f7a4 52 = .ok (.ireturn, 1) := by decide +kernel
noncomputable def f_J6_bitCount_0f7a4 (l0 : Int32) (μ : Mm) : Option Int32 :=
  (some (l0 - (((l0.toUInt32 >>> ((1 : Int32).toUInt32 &&& Int32.toUInt32 31)).toInt32) &&& (1431655765 : Int32)))).bind fun v9 => (some ((v9 &&& (858993459 : Int32)) + (((v9.toUInt32 >>> ((2 : Int32).toUInt32 &&& Int32.toUInt32 31)).toInt32) &&& (858993459 : Int32)))).bind fun v23 => (some ((v23 + ((v23.toUInt32 >>> ((4 : Int32).toUInt32 &&& Int32.toUInt32 31)).toInt32)) &&& (252645135 : Int32))).bind fun v33 => (some (v33 + ((v33.toUInt32 >>> ((8 : Int32).toUInt32 &&& Int32.toUInt32 31)).toInt32))).bind fun v40 => (some (v40 + ((v40.toUInt32 >>> ((16 : Int32).toUInt32 &&& Int32.toUInt32 31)).toInt32))).bind fun v47 => some (v47 &&& (63 : Int32))
abbrev Rn_J6_bitCount_0f7a4 (G : Gv) (Q : Option Value → Mm → Prop) (pc : Nat) (lv : List (Nat × Value)) (st : List Value) (μ : Mm) : Prop := Rn G RJ6 cJ6_bitCount_0f7a4 1 (some .int) "bitCount" (rmd 0 0 0) (Zm G 0 0 Q) 0 0 pc lv st μ
set_option maxRecDepth 100000 in
set_option maxHeartbeats 4000000 in
theorem m_J6_bitCount_0f7a4 {G : Gv} (l0 : Int32) (μ : Mm) {r : Int32} (hx : f_J6_bitCount_0f7a4 l0 μ = some r) : Mt G yJ6_bitCount_0f7a4 cJ6_bitCount_0f7a4 1 (some .int) 0 0 0 [.int l0] μ (fun v μ' => v = some (.int r) ∧ μ' = μ) := by
  refine Mt.of (by decide) (Nat.le_of_ble_eq_true rfl) ?_
  show Rn_J6_bitCount_0f7a4 G (fun v μ' => v = some (.int r) ∧ μ' = μ) 0 [(0, .int l0)] [] μ
  have h : Sat (f_J6_bitCount_0f7a4 l0 μ) (fun x => x = r) := ⟨_, hx, rfl⟩
  refine r_iload_n dJ6_bitCount_0f7a4_0 0 rfl ?_
  refine r_iload_n dJ6_bitCount_0f7a4_1 0 rfl ?_
  refine r_iconst (v := 1) dJ6_bitCount_0f7a4_2 (by decide) ?_
  refine r_iushr dJ6_bitCount_0f7a4_3 ?_
  refine r_ldcw (v := 1431655765) dJ6_bitCount_0f7a4_4 kc_J6_265 ?_
  refine r_iand dJ6_bitCount_0f7a4_7 ?_
  refine r_isub dJ6_bitCount_0f7a4_8 ?_
  obtain ⟨v9, e9, h⟩ := Sat_bind h
  refine r_topi (Option.some.inj e9) ?_
  refine r_istore_n (lv' := [(0, .int v9)]) dJ6_bitCount_0f7a4_9 rfl (by decide) rfl ?_
  refine r_iload_n dJ6_bitCount_0f7a4_10 0 rfl ?_
  refine r_ldcw (v := 858993459) dJ6_bitCount_0f7a4_11 kc_J6_266 ?_
  refine r_iand dJ6_bitCount_0f7a4_14 ?_
  refine r_iload_n dJ6_bitCount_0f7a4_15 0 rfl ?_
  refine r_iconst (v := 2) dJ6_bitCount_0f7a4_16 (by decide) ?_
  refine r_iushr dJ6_bitCount_0f7a4_17 ?_
  refine r_ldcw (v := 858993459) dJ6_bitCount_0f7a4_18 kc_J6_266 ?_
  refine r_iand dJ6_bitCount_0f7a4_21 ?_
  refine r_iadd dJ6_bitCount_0f7a4_22 ?_
  obtain ⟨v23, e23, h⟩ := Sat_bind h
  refine r_topi (Option.some.inj e23) ?_
  refine r_istore_n (lv' := [(0, .int v23)]) dJ6_bitCount_0f7a4_23 rfl (by decide) rfl ?_
  refine r_iload_n dJ6_bitCount_0f7a4_24 0 rfl ?_
  refine r_iload_n dJ6_bitCount_0f7a4_25 0 rfl ?_
  refine r_iconst (v := 4) dJ6_bitCount_0f7a4_26 (by decide) ?_
  refine r_iushr dJ6_bitCount_0f7a4_27 ?_
  refine r_iadd dJ6_bitCount_0f7a4_28 ?_
  refine r_ldcw (v := 252645135) dJ6_bitCount_0f7a4_29 kc_J6_267 ?_
  refine r_iand dJ6_bitCount_0f7a4_32 ?_
  obtain ⟨v33, e33, h⟩ := Sat_bind h
  refine r_topi (Option.some.inj e33) ?_
  refine r_istore_n (lv' := [(0, .int v33)]) dJ6_bitCount_0f7a4_33 rfl (by decide) rfl ?_
  refine r_iload_n dJ6_bitCount_0f7a4_34 0 rfl ?_
  refine r_iload_n dJ6_bitCount_0f7a4_35 0 rfl ?_
  refine r_bipush (v := 8) dJ6_bitCount_0f7a4_36 (by decide) ?_
  refine r_iushr dJ6_bitCount_0f7a4_38 ?_
  refine r_iadd dJ6_bitCount_0f7a4_39 ?_
  obtain ⟨v40, e40, h⟩ := Sat_bind h
  refine r_topi (Option.some.inj e40) ?_
  refine r_istore_n (lv' := [(0, .int v40)]) dJ6_bitCount_0f7a4_40 rfl (by decide) rfl ?_
  refine r_iload_n dJ6_bitCount_0f7a4_41 0 rfl ?_
  refine r_iload_n dJ6_bitCount_0f7a4_42 0 rfl ?_
  refine r_bipush (v := 16) dJ6_bitCount_0f7a4_43 (by decide) ?_
  refine r_iushr dJ6_bitCount_0f7a4_45 ?_
  refine r_iadd dJ6_bitCount_0f7a4_46 ?_
  obtain ⟨v47, e47, h⟩ := Sat_bind h
  refine r_topi (Option.some.inj e47) ?_
  refine r_istore_n (lv' := [(0, .int v47)]) dJ6_bitCount_0f7a4_47 rfl (by decide) rfl ?_
  refine r_iload_n dJ6_bitCount_0f7a4_48 0 rfl ?_
  refine r_bipush (v := 63) dJ6_bitCount_0f7a4_49 (by decide) ?_
  refine r_iand dJ6_bitCount_0f7a4_51 ?_
  exact r_ireturn rfl (by rw [← Sat_eq h]; exact ⟨rfl, rfl⟩) dJ6_bitCount_0f7a4_52
theorem dJ7_fill_53178_0 : decode cJ7_fill_53178 0 = .ok (.iconst 0, 1) := by decide +kernel
theorem dJ7_fill_53178_1 : decode cJ7_fill_53178 1 = .ok (.istore_n 2, 1) := by decide +kernel
theorem dJ7_fill_53178_2 : decode cJ7_fill_53178 2 = .ok (.aload_n 0, 1) := by decide +kernel
theorem dJ7_fill_53178_3 : decode cJ7_fill_53178 3 = .ok (.arraylength, 1) := by decide +kernel
theorem dJ7_fill_53178_4 : decode cJ7_fill_53178 4 = .ok (.istore_n 3, 1) := by decide +kernel
theorem dJ7_fill_53178_5 : decode cJ7_fill_53178 5 = .ok (.iload_n 2, 1) := by decide +kernel
theorem dJ7_fill_53178_6 : decode cJ7_fill_53178 6 = .ok (.iload_n 3, 1) := by decide +kernel
theorem dJ7_fill_53178_7 : decode cJ7_fill_53178 7 = .ok (.if_icmp .ge 13, 3) := by decide +kernel
theorem dJ7_fill_53178_10 : decode cJ7_fill_53178 10 = .ok (.aload_n 0, 1) := by decide +kernel
theorem dJ7_fill_53178_11 : decode cJ7_fill_53178 11 = .ok (.iload_n 2, 1) := by decide +kernel
theorem dJ7_fill_53178_12 : decode cJ7_fill_53178 12 = .ok (.iload_n 1, 1) := by decide +kernel
theorem dJ7_fill_53178_13 : decode cJ7_fill_53178 13 = .ok (.iastore, 1) := by decide +kernel
theorem dJ7_fill_53178_14 : decode cJ7_fill_53178 14 = .ok (.iinc 2 1, 3) := by decide +kernel
theorem dJ7_fill_53178_17 : decode cJ7_fill_53178 17 = .ok (.goto (-12), 3) := by decide +kernel
theorem dJ7_fill_53178_20 : decode cJ7_fill_53178 20 = .ok (.return_, 1) := by decide +kernel
noncomputable def f_J7_fill_53178_L5 (l0 : Nat) (l1 : Int32) (l3 : Int32) (s5 : Int32 × Mm) : Option ((Int32 × Mm) ⊕ (Mm)) :=
  if l3 ≤ s5.1 then some (.inr s5.2) else (pa_I l0 s5.1 l1 s5.2).bind fun μ13 => (some (s5.1 + (1 : Int32))).bind fun v14 => some (.inl (v14, μ13))
noncomputable def f_J7_fill_53178 (l0 : Nat) (l1 : Int32) (μ : Mm) : Option Mm :=
  (ga_len l0 μ).bind fun x3 => (whl (f_J7_fill_53178_L5 l0 l1 x3) ((0 : Int32), μ)).bind (fun b5 => some b5)
abbrev Rn_J7_fill_53178 (G : Gv) (Q : Option Value → Mm → Prop) (pc : Nat) (lv : List (Nat × Value)) (st : List Value) (μ : Mm) : Prop := Rn G RJ7 cJ7_fill_53178 4 none "fill" (rmd 0 0 0) (Zm G 0 0 Q) 0 0 pc lv st μ
set_option maxRecDepth 100000 in
set_option maxHeartbeats 4000000 in
theorem m_J7_fill_53178 {G : Gv} (l0 : Nat) (l1 : Int32) (μ : Mm) {r : Mm} (hx : f_J7_fill_53178 l0 l1 μ = some r) : Mt G yJ7_fill_53178 cJ7_fill_53178 4 none 0 0 0 [.ref l0, .int l1] μ (fun v μ' => v = none ∧ μ' = r) := by
  refine Mt.of (by decide) (Nat.le_of_ble_eq_true rfl) ?_
  show Rn_J7_fill_53178 G (fun v μ' => v = none ∧ μ' = r) 0 [(0, .ref l0), (1, .int l1)] [] μ
  have h : Sat (f_J7_fill_53178 l0 l1 μ) (fun x => x = r) := ⟨_, hx, rfl⟩
  refine r_iconst (v := 0) dJ7_fill_53178_0 (by decide) ?_
  refine r_istore_n (lv' := [(2, .int (0 : Int32)), (0, .ref l0), (1, .int l1)]) dJ7_fill_53178_1 rfl (by decide) rfl ?_
  refine r_aload_n dJ7_fill_53178_2 1 rfl ?_
  obtain ⟨x3, e3, h⟩ := Sat_bind h
  refine r_len e3 dJ7_fill_53178_3 ?_
  refine r_istore_n (lv' := [(3, .int x3), (2, .int (0 : Int32)), (0, .ref l0), (1, .int l1)]) dJ7_fill_53178_4 rfl (by decide) rfl ?_
  refine r_sub (lv' := [(0, .ref l0), (1, .int l1), (2, .int (0 : Int32)), (3, .int x3)]) [2, 3, 1, 0] rfl ?_
  refine whl_K (s0 := (((0 : Int32), μ) : Int32 × Mm)) (RR := fun (s5 : Int32 × Mm) => Rn_J7_fill_53178 G (fun v μ' => v = none ∧ μ' = r) 5 [(0, .ref l0), (1, .int l1), (2, .int s5.1), (3, .int x3)] [] s5.2) ?_ (Sat_bindK h)
  intro s5 K5 hI5 hX5 h
  refine r_iload_n dJ7_fill_53178_5 2 rfl ?_
  refine r_iload_n dJ7_fill_53178_6 3 rfl ?_
  refine r_icmp_ge 20 dJ7_fill_53178_7 (by decide) (fun c7 => ?_) (fun c7 => ?_)
  · have h := Sat_pos c7 h
    have h := hX5 _ (Sat_some h)
    exact r_vreturn rfl (by rw [← Sat_eq h]; exact ⟨rfl, rfl⟩) dJ7_fill_53178_20
  · have h := Sat_neg c7 h
    refine r_aload_n dJ7_fill_53178_10 0 rfl ?_
    refine r_iload_n dJ7_fill_53178_11 2 rfl ?_
    refine r_iload_n dJ7_fill_53178_12 1 rfl ?_
    obtain ⟨μ13, e13, h⟩ := Sat_bind h
    refine r_iastore e13 dJ7_fill_53178_13 ?_
    obtain ⟨v14, e14, h⟩ := Sat_bind h
    refine r_iinc (j := 2) (v := v14) (lv' := [(2, .int v14), (0, .ref l0), (1, .int l1), (3, .int x3)]) dJ7_fill_53178_14 rfl (iinc_v e14 (by decide)) (by decide) rfl ?_
    refine r_goto 5 dJ7_fill_53178_17 (by decide) ?_
    exact r_sub [1, 2, 0, 3] rfl (hI5 _ (Sat_some h))
theorem dJ7_fill_d0a16_0 : decode cJ7_fill_d0a16 0 = .ok (.iconst 0, 1) := by decide +kernel
theorem dJ7_fill_d0a16_1 : decode cJ7_fill_d0a16 1 = .ok (.istore_n 3, 1) := by decide +kernel
theorem dJ7_fill_d0a16_2 : decode cJ7_fill_d0a16 2 = .ok (.aload_n 0, 1) := by decide +kernel
theorem dJ7_fill_d0a16_3 : decode cJ7_fill_d0a16 3 = .ok (.arraylength, 1) := by decide +kernel
theorem dJ7_fill_d0a16_4 : decode cJ7_fill_d0a16 4 = .ok (.istore 4, 2) := by decide +kernel
theorem dJ7_fill_d0a16_6 : decode cJ7_fill_d0a16 6 = .ok (.iload_n 3, 1) := by decide +kernel
theorem dJ7_fill_d0a16_7 : decode cJ7_fill_d0a16 7 = .ok (.iload 4, 2) := by decide +kernel
theorem dJ7_fill_d0a16_9 : decode cJ7_fill_d0a16 9 = .ok (.if_icmp .ge 13, 3) := by decide +kernel
theorem dJ7_fill_d0a16_12 : decode cJ7_fill_d0a16 12 = .ok (.aload_n 0, 1) := by decide +kernel
theorem dJ7_fill_d0a16_13 : decode cJ7_fill_d0a16 13 = .ok (.iload_n 3, 1) := by decide +kernel
theorem dJ7_fill_d0a16_14 : decode cJ7_fill_d0a16 14 = .ok (.lload_n 1, 1) := by decide +kernel
theorem dJ7_fill_d0a16_15 : decode cJ7_fill_d0a16 15 = .ok (.lastore, 1) := by decide +kernel
theorem dJ7_fill_d0a16_16 : decode cJ7_fill_d0a16 16 = .ok (.iinc 3 1, 3) := by decide +kernel
theorem dJ7_fill_d0a16_19 : decode cJ7_fill_d0a16 19 = .ok (.goto (-13), 3) := by decide +kernel
theorem dJ7_fill_d0a16_22 : decode cJ7_fill_d0a16 22 = .ok (.return_, 1) := by decide +kernel
noncomputable def f_J7_fill_d0a16_L6 (l0 : Nat) (l1 : Int64) (l4 : Int32) (s6 : Int32 × Mm) : Option ((Int32 × Mm) ⊕ (Mm)) :=
  if l4 ≤ s6.1 then some (.inr s6.2) else (pa_L l0 s6.1 l1 s6.2).bind fun μ15 => (some (s6.1 + (1 : Int32))).bind fun v16 => some (.inl (v16, μ15))
noncomputable def f_J7_fill_d0a16 (l0 : Nat) (l1 : Int64) (μ : Mm) : Option Mm :=
  (ga_len l0 μ).bind fun x3 => (whl (f_J7_fill_d0a16_L6 l0 l1 x3) ((0 : Int32), μ)).bind (fun b6 => some b6)
abbrev Rn_J7_fill_d0a16 (G : Gv) (Q : Option Value → Mm → Prop) (pc : Nat) (lv : List (Nat × Value)) (st : List Value) (μ : Mm) : Prop := Rn G RJ7 cJ7_fill_d0a16 5 none "fill" (rmd 0 0 0) (Zm G 0 0 Q) 0 0 pc lv st μ
set_option maxRecDepth 100000 in
set_option maxHeartbeats 4000000 in
theorem m_J7_fill_d0a16 {G : Gv} (l0 : Nat) (l1 : Int64) (μ : Mm) {r : Mm} (hx : f_J7_fill_d0a16 l0 l1 μ = some r) : Mt G yJ7_fill_d0a16 cJ7_fill_d0a16 5 none 0 0 0 [.ref l0, .long l1] μ (fun v μ' => v = none ∧ μ' = r) := by
  refine Mt.of (by decide) (Nat.le_of_ble_eq_true rfl) ?_
  show Rn_J7_fill_d0a16 G (fun v μ' => v = none ∧ μ' = r) 0 [(0, .ref l0), (1, .long l1)] [] μ
  have h : Sat (f_J7_fill_d0a16 l0 l1 μ) (fun x => x = r) := ⟨_, hx, rfl⟩
  refine r_iconst (v := 0) dJ7_fill_d0a16_0 (by decide) ?_
  refine r_istore_n (lv' := [(3, .int (0 : Int32)), (0, .ref l0), (1, .long l1)]) dJ7_fill_d0a16_1 rfl (by decide) rfl ?_
  refine r_aload_n dJ7_fill_d0a16_2 1 rfl ?_
  obtain ⟨x3, e3, h⟩ := Sat_bind h
  refine r_len e3 dJ7_fill_d0a16_3 ?_
  refine r_istore (lv' := [(4, .int x3), (3, .int (0 : Int32)), (0, .ref l0), (1, .long l1)]) dJ7_fill_d0a16_4 (by decide) rfl ?_
  refine r_sub (lv' := [(0, .ref l0), (1, .long l1), (3, .int (0 : Int32)), (4, .int x3)]) [2, 3, 1, 0] rfl ?_
  refine whl_K (s0 := (((0 : Int32), μ) : Int32 × Mm)) (RR := fun (s6 : Int32 × Mm) => Rn_J7_fill_d0a16 G (fun v μ' => v = none ∧ μ' = r) 6 [(0, .ref l0), (1, .long l1), (3, .int s6.1), (4, .int x3)] [] s6.2) ?_ (Sat_bindK h)
  intro s6 K6 hI6 hX6 h
  refine r_iload_n dJ7_fill_d0a16_6 2 rfl ?_
  refine r_iload dJ7_fill_d0a16_7 3 rfl ?_
  refine r_icmp_ge 22 dJ7_fill_d0a16_9 (by decide) (fun c9 => ?_) (fun c9 => ?_)
  · have h := Sat_pos c9 h
    have h := hX6 _ (Sat_some h)
    exact r_vreturn rfl (by rw [← Sat_eq h]; exact ⟨rfl, rfl⟩) dJ7_fill_d0a16_22
  · have h := Sat_neg c9 h
    refine r_aload_n dJ7_fill_d0a16_12 0 rfl ?_
    refine r_iload_n dJ7_fill_d0a16_13 2 rfl ?_
    refine r_lload_n dJ7_fill_d0a16_14 1 rfl ?_
    obtain ⟨μ15, e15, h⟩ := Sat_bind h
    refine r_lastore e15 dJ7_fill_d0a16_15 ?_
    obtain ⟨v16, e16, h⟩ := Sat_bind h
    refine r_iinc (j := 2) (v := v16) (lv' := [(3, .int v16), (0, .ref l0), (1, .long l1), (4, .int x3)]) dJ7_fill_d0a16_16 rfl (iinc_v e16 (by decide)) (by decide) rfl ?_
    refine r_goto 6 dJ7_fill_d0a16_19 (by decide) ?_
    exact r_sub [1, 2, 0, 3] rfl (hI6 _ (Sat_some h))
theorem dX0_hasRoomForAct_0 : decode cX0_hasRoomForAct 0 = .ok (.aload_n 0, 1) := by decide +kernel
theorem dX0_hasRoomForAct_1 : decode cX0_hasRoomForAct 1 = .ok (.getfield 36, 3) := by decide +kernel
theorem dX0_hasRoomForAct_4 : decode cX0_hasRoomForAct 4 = .ok (.bipush 16, 2) := by decide +kernel
theorem dX0_hasRoomForAct_6 : decode cX0_hasRoomForAct 6 = .ok (.if_icmp .ge 7, 3) := by decide +kernel
theorem dX0_hasRoomForAct_9 : decode cX0_hasRoomForAct 9 = .ok (.iconst 1, 1) := by decide +kernel
theorem dX0_hasRoomForAct_10 : decode cX0_hasRoomForAct 10 = .ok (.goto 4, 3) := by decide +kernel
theorem dX0_hasRoomForAct_13 : decode cX0_hasRoomForAct 13 = .ok (.iconst 0, 1) := by decide +kernel
theorem dX0_hasRoomForAct_14 : decode cX0_hasRoomForAct 14 = .ok (.ireturn, 1) := by decide +kernel
noncomputable def f_X0_hasRoomForAct (a0 : Nat) (μ : Mm) : Option Int32 :=
  if (mm_K μ a0).1 = 1 then (gf_I 1 8 a0 μ).bind fun x1 => if (16 : Int32) ≤ x1 then some (0 : Int32) else some (1 : Int32) else none
abbrev Rn_X0_hasRoomForAct (G : Gv) (Q : Option Value → Mm → Prop) (pc : Nat) (lv : List (Nat × Value)) (st : List Value) (μ : Mm) : Prop := Rn G RX0 cX0_hasRoomForAct 1 (some .boolean) "hasRoomForAct" (rmd 0 0 0) (Zm G 0 0 Q) 0 0 pc lv st μ
set_option maxRecDepth 100000 in
set_option maxHeartbeats 4000000 in
theorem m_X0_hasRoomForAct {G : Gv} (a0 : Nat) (μ : Mm) {r : Int32} (hx : f_X0_hasRoomForAct a0 μ = some r) : Mt G yX0_hasRoomForAct cX0_hasRoomForAct 1 (some .boolean) 0 0 0 [.ref a0] μ (fun v μ' => v = some (.int r) ∧ μ' = μ) := by
  refine Mt.of (by decide) (Nat.le_of_ble_eq_true rfl) ?_
  show Rn_X0_hasRoomForAct G (fun v μ' => v = some (.int r) ∧ μ' = μ) 0 [(0, .ref a0)] [] μ
  obtain ⟨_, h⟩ := Sat_ifp (show Sat (f_X0_hasRoomForAct a0 μ) (fun x => x = r) from ⟨_, hx, rfl⟩)
  refine r_aload_n dX0_hasRoomForAct_0 0 rfl ?_
  obtain ⟨x1, e1, h⟩ := Sat_bind h
  refine r_getI fk_X0_36 rfl e1 dX0_hasRoomForAct_1 ?_
  refine r_bipush (v := 16) dX0_hasRoomForAct_4 (by decide) ?_
  refine r_icmp_ge 13 dX0_hasRoomForAct_6 (by decide) (fun c6 => ?_) (fun c6 => ?_)
  · have h := Sat_pos c6 h
    refine r_iconst (v := 0) dX0_hasRoomForAct_13 (by decide) ?_
    exact r_zreturn rfl (by decide) (by rw [← Sat_eq h]; exact ⟨rfl, rfl⟩) dX0_hasRoomForAct_14
  · have h := Sat_neg c6 h
    refine r_iconst (v := 1) dX0_hasRoomForAct_9 (by decide) ?_
    refine r_goto 14 dX0_hasRoomForAct_10 (by decide) ?_
    exact r_zreturn rfl (by decide) (by rw [← Sat_eq h]; exact ⟨rfl, rfl⟩) dX0_hasRoomForAct_14
theorem dX0_addAct_0 : decode cX0_addAct 0 = .ok (.aload_n 0, 1) := by decide +kernel
theorem dX0_addAct_1 : decode cX0_addAct 1 = .ok (.invokevirtual 50, 3) := by decide +kernel
theorem dX0_addAct_4 : decode cX0_addAct 4 = .ok (.ifCond .ne 6, 3) := by decide +kernel
theorem dX0_addAct_7 : decode cX0_addAct 7 = .ok (.bipush (-3), 2) := by decide +kernel
theorem dX0_addAct_9 : decode cX0_addAct 9 = .ok (.ireturn, 1) := by decide +kernel
theorem dX0_addAct_10 : decode cX0_addAct 10 = .ok (.aload_n 0, 1) := by decide +kernel
theorem dX0_addAct_11 : decode cX0_addAct 11 = .ok (.iload_n 1, 1) := by decide +kernel
theorem dX0_addAct_12 : decode cX0_addAct 12 = .ok (.putfield 43, 3) := by decide +kernel
theorem dX0_addAct_15 : decode cX0_addAct 15 = .ok (.aload_n 0, 1) := by decide +kernel
theorem dX0_addAct_16 : decode cX0_addAct 16 = .ok (.getfield 11, 3) := by decide +kernel
theorem dX0_addAct_19 : decode cX0_addAct 19 = .ok (.aload_n 0, 1) := by decide +kernel
theorem dX0_addAct_20 : decode cX0_addAct 20 = .ok (.getfield 36, 3) := by decide +kernel
theorem dX0_addAct_23 : decode cX0_addAct 23 = .ok (.iload_n 1, 1) := by decide +kernel
theorem dX0_addAct_24 : decode cX0_addAct 24 = .ok (.iastore, 1) := by decide +kernel
theorem dX0_addAct_25 : decode cX0_addAct 25 = .ok (.aload_n 0, 1) := by decide +kernel
theorem dX0_addAct_26 : decode cX0_addAct 26 = .ok (.getfield 15, 3) := by decide +kernel
theorem dX0_addAct_29 : decode cX0_addAct 29 = .ok (.aload_n 0, 1) := by decide +kernel
theorem dX0_addAct_30 : decode cX0_addAct 30 = .ok (.getfield 36, 3) := by decide +kernel
theorem dX0_addAct_33 : decode cX0_addAct 33 = .ok (.iload_n 2, 1) := by decide +kernel
theorem dX0_addAct_34 : decode cX0_addAct 34 = .ok (.iastore, 1) := by decide +kernel
theorem dX0_addAct_35 : decode cX0_addAct 35 = .ok (.aload_n 0, 1) := by decide +kernel
theorem dX0_addAct_36 : decode cX0_addAct 36 = .ok (.getfield 18, 3) := by decide +kernel
theorem dX0_addAct_39 : decode cX0_addAct 39 = .ok (.aload_n 0, 1) := by decide +kernel
theorem dX0_addAct_40 : decode cX0_addAct 40 = .ok (.getfield 36, 3) := by decide +kernel
theorem dX0_addAct_43 : decode cX0_addAct 43 = .ok (.iload_n 3, 1) := by decide +kernel
theorem dX0_addAct_44 : decode cX0_addAct 44 = .ok (.iastore, 1) := by decide +kernel
theorem dX0_addAct_45 : decode cX0_addAct 45 = .ok (.aload_n 0, 1) := by decide +kernel
theorem dX0_addAct_46 : decode cX0_addAct 46 = .ok (.getfield 21, 3) := by decide +kernel
theorem dX0_addAct_49 : decode cX0_addAct 49 = .ok (.aload_n 0, 1) := by decide +kernel
theorem dX0_addAct_50 : decode cX0_addAct 50 = .ok (.getfield 36, 3) := by decide +kernel
theorem dX0_addAct_53 : decode cX0_addAct 53 = .ok (.iload 4, 2) := by decide +kernel
theorem dX0_addAct_55 : decode cX0_addAct 55 = .ok (.iastore, 1) := by decide +kernel
theorem dX0_addAct_56 : decode cX0_addAct 56 = .ok (.aload_n 0, 1) := by decide +kernel
theorem dX0_addAct_57 : decode cX0_addAct 57 = .ok (.getfield 24, 3) := by decide +kernel
theorem dX0_addAct_60 : decode cX0_addAct 60 = .ok (.aload_n 0, 1) := by decide +kernel
theorem dX0_addAct_61 : decode cX0_addAct 61 = .ok (.getfield 36, 3) := by decide +kernel
theorem dX0_addAct_64 : decode cX0_addAct 64 = .ok (.iload 5, 2) := by decide +kernel
theorem dX0_addAct_66 : decode cX0_addAct 66 = .ok (.iastore, 1) := by decide +kernel
theorem dX0_addAct_67 : decode cX0_addAct 67 = .ok (.aload_n 0, 1) := by decide +kernel
theorem dX0_addAct_68 : decode cX0_addAct 68 = .ok (.dup, 1) := by decide +kernel
theorem dX0_addAct_69 : decode cX0_addAct 69 = .ok (.getfield 36, 3) := by decide +kernel
theorem dX0_addAct_72 : decode cX0_addAct 72 = .ok (.iconst 1, 1) := by decide +kernel
theorem dX0_addAct_73 : decode cX0_addAct 73 = .ok (.iadd, 1) := by decide +kernel
theorem dX0_addAct_74 : decode cX0_addAct 74 = .ok (.putfield 36, 3) := by decide +kernel
theorem dX0_addAct_77 : decode cX0_addAct 77 = .ok (.aload_n 0, 1) := by decide +kernel
theorem dX0_addAct_78 : decode cX0_addAct 78 = .ok (.getfield 36, 3) := by decide +kernel
theorem dX0_addAct_81 : decode cX0_addAct 81 = .ok (.iconst 1, 1) := by decide +kernel
theorem dX0_addAct_82 : decode cX0_addAct 82 = .ok (.isub, 1) := by decide +kernel
theorem dX0_addAct_83 : decode cX0_addAct 83 = .ok (.ireturn, 1) := by decide +kernel
noncomputable def f_X0_addAct (a0 : Nat) (l1 : Int32) (l2 : Int32) (l3 : Int32) (l4 : Int32) (l5 : Int32) (μ : Mm) : Option (Int32 × Mm) :=
  if (mm_K μ a0).1 = 1 then (f_X0_hasRoomForAct a0 μ).bind fun x1 => if x1 = 0 then some ((-3 : Int32), μ) else (pf_I 1 10 a0 l1 μ).bind fun μ12 => (gf_P 1 0 a0 μ12).bind fun x16 => (gf_I 1 8 a0 μ12).bind fun x20 => (pa_I x16 x20 l1 μ12).bind fun μ24 => (gf_P 1 1 a0 μ24).bind fun x26 => (gf_I 1 8 a0 μ24).bind fun x30 => (pa_I x26 x30 l2 μ24).bind fun μ34 => (gf_P 1 2 a0 μ34).bind fun x36 => (gf_I 1 8 a0 μ34).bind fun x40 => (pa_I x36 x40 l3 μ34).bind fun μ44 => (gf_P 1 3 a0 μ44).bind fun x46 => (gf_I 1 8 a0 μ44).bind fun x50 => (pa_I x46 x50 l4 μ44).bind fun μ55 => (gf_P 1 4 a0 μ55).bind fun x57 => (gf_I 1 8 a0 μ55).bind fun x61 => (pa_I x57 x61 l5 μ55).bind fun μ66 => (gf_I 1 8 a0 μ66).bind fun x69 => (pf_I 1 8 a0 (x69 + (1 : Int32)) μ66).bind fun μ74 => (gf_I 1 8 a0 μ74).bind fun x78 => some (x78 - (1 : Int32), μ74) else none
abbrev Rn_X0_addAct (G : Gv) (Q : Option Value → Mm → Prop) (pc : Nat) (lv : List (Nat × Value)) (st : List Value) (μ : Mm) : Prop := Rn G RX0 cX0_addAct 6 (some .int) "addAct" (rmd 1 0 0) (Zm G 0 0 Q) 0 0 pc lv st μ
set_option maxRecDepth 100000 in
set_option maxHeartbeats 4000000 in
theorem m_X0_addAct {G : Gv} (a0 : Nat) (l1 : Int32) (l2 : Int32) (l3 : Int32) (l4 : Int32) (l5 : Int32) (μ : Mm) {r : (Int32 × Mm)} (hx : f_X0_addAct a0 l1 l2 l3 l4 l5 μ = some r) : Mt G yX0_addAct cX0_addAct 6 (some .int) 1 0 0 [.ref a0, .int l1, .int l2, .int l3, .int l4, .int l5] μ (fun v μ' => v = some (.int r.1) ∧ μ' = r.2) := by
  refine Mt.of (by decide) (Nat.le_of_ble_eq_true rfl) ?_
  show Rn_X0_addAct G (fun v μ' => v = some (.int r.1) ∧ μ' = r.2) 0 [(0, .ref a0), (1, .int l1), (2, .int l2), (3, .int l3), (4, .int l4), (5, .int l5)] [] μ
  obtain ⟨_, h⟩ := Sat_ifp (show Sat (f_X0_addAct a0 l1 l2 l3 l4 l5 μ) (fun x => x = r) from ⟨_, hx, rfl⟩)
  refine r_aload_n dX0_addAct_0 0 rfl ?_
  obtain ⟨x1, e1, h⟩ := Sat_bind h
  refine r_cV (t := 1) [] [] (m_X0_hasRoomForAct a0 μ e1) ck_X0_hasRoomForAct lk_X0_50 in_X0_hasRoomForAct se_X0_hasRoomForAct (kd_of e1) ⟨rfl, by decide, by decide⟩ rfl rfl (Nat.le_of_ble_eq_true rfl) ⟨by decide, by decide⟩ ⟨Nat.zero_le _, Nat.zero_le _⟩ dX0_addAct_1 ?_
  refine r_if_ne 10 dX0_addAct_4 (by decide) (fun c4 => ?_) (fun c4 => ?_)
  · have h := Sat_neg c4 h
    refine r_aload_n dX0_addAct_10 0 rfl ?_
    refine r_iload_n dX0_addAct_11 1 rfl ?_
    obtain ⟨μ12, e12, h⟩ := Sat_bind h
    refine r_putI fk_X0_43 rfl rfl e12 dX0_addAct_12 ?_
    refine r_aload_n dX0_addAct_15 0 rfl ?_
    obtain ⟨x16, e16, h⟩ := Sat_bind h
    refine r_getP fk_X0_11 rfl e16 dX0_addAct_16 ?_
    refine r_aload_n dX0_addAct_19 0 rfl ?_
    obtain ⟨x20, e20, h⟩ := Sat_bind h
    refine r_getI fk_X0_36 rfl e20 dX0_addAct_20 ?_
    refine r_iload_n dX0_addAct_23 1 rfl ?_
    obtain ⟨μ24, e24, h⟩ := Sat_bind h
    refine r_iastore e24 dX0_addAct_24 ?_
    refine r_aload_n dX0_addAct_25 0 rfl ?_
    obtain ⟨x26, e26, h⟩ := Sat_bind h
    refine r_getP fk_X0_15 rfl e26 dX0_addAct_26 ?_
    refine r_aload_n dX0_addAct_29 0 rfl ?_
    obtain ⟨x30, e30, h⟩ := Sat_bind h
    refine r_getI fk_X0_36 rfl e30 dX0_addAct_30 ?_
    refine r_iload_n dX0_addAct_33 2 rfl ?_
    obtain ⟨μ34, e34, h⟩ := Sat_bind h
    refine r_iastore e34 dX0_addAct_34 ?_
    refine r_aload_n dX0_addAct_35 0 rfl ?_
    obtain ⟨x36, e36, h⟩ := Sat_bind h
    refine r_getP fk_X0_18 rfl e36 dX0_addAct_36 ?_
    refine r_aload_n dX0_addAct_39 0 rfl ?_
    obtain ⟨x40, e40, h⟩ := Sat_bind h
    refine r_getI fk_X0_36 rfl e40 dX0_addAct_40 ?_
    refine r_iload_n dX0_addAct_43 3 rfl ?_
    obtain ⟨μ44, e44, h⟩ := Sat_bind h
    refine r_iastore e44 dX0_addAct_44 ?_
    refine r_aload_n dX0_addAct_45 0 rfl ?_
    obtain ⟨x46, e46, h⟩ := Sat_bind h
    refine r_getP fk_X0_21 rfl e46 dX0_addAct_46 ?_
    refine r_aload_n dX0_addAct_49 0 rfl ?_
    obtain ⟨x50, e50, h⟩ := Sat_bind h
    refine r_getI fk_X0_36 rfl e50 dX0_addAct_50 ?_
    refine r_iload dX0_addAct_53 4 rfl ?_
    obtain ⟨μ55, e55, h⟩ := Sat_bind h
    refine r_iastore e55 dX0_addAct_55 ?_
    refine r_aload_n dX0_addAct_56 0 rfl ?_
    obtain ⟨x57, e57, h⟩ := Sat_bind h
    refine r_getP fk_X0_24 rfl e57 dX0_addAct_57 ?_
    refine r_aload_n dX0_addAct_60 0 rfl ?_
    obtain ⟨x61, e61, h⟩ := Sat_bind h
    refine r_getI fk_X0_36 rfl e61 dX0_addAct_61 ?_
    refine r_iload dX0_addAct_64 5 rfl ?_
    obtain ⟨μ66, e66, h⟩ := Sat_bind h
    refine r_iastore e66 dX0_addAct_66 ?_
    refine r_aload_n dX0_addAct_67 0 rfl ?_
    refine r_dup dX0_addAct_68 rfl ?_
    obtain ⟨x69, e69, h⟩ := Sat_bind h
    refine r_getI fk_X0_36 rfl e69 dX0_addAct_69 ?_
    refine r_iconst (v := 1) dX0_addAct_72 (by decide) ?_
    refine r_iadd dX0_addAct_73 ?_
    obtain ⟨μ74, e74, h⟩ := Sat_bind h
    refine r_putI fk_X0_36 rfl rfl e74 dX0_addAct_74 ?_
    refine r_aload_n dX0_addAct_77 0 rfl ?_
    obtain ⟨x78, e78, h⟩ := Sat_bind h
    refine r_getI fk_X0_36 rfl e78 dX0_addAct_78 ?_
    refine r_iconst (v := 1) dX0_addAct_81 (by decide) ?_
    refine r_isub dX0_addAct_82 ?_
    exact r_ireturn rfl (by rw [← Sat_eq h]; exact ⟨rfl, rfl⟩) dX0_addAct_83
  · have h := Sat_pos c4 h
    refine r_bipush (v := -3) dX0_addAct_7 (by decide) ?_
    exact r_ireturn rfl (by rw [← Sat_eq h]; exact ⟨rfl, rfl⟩) dX0_addAct_9
theorem dX0_hasRoomForRight_0 : decode cX0_hasRoomForRight 0 = .ok (.aload_n 0, 1) := by decide +kernel
theorem dX0_hasRoomForRight_1 : decode cX0_hasRoomForRight 1 = .ok (.getfield 40, 3) := by decide +kernel
theorem dX0_hasRoomForRight_4 : decode cX0_hasRoomForRight 4 = .ok (.bipush 20, 2) := by decide +kernel
theorem dX0_hasRoomForRight_6 : decode cX0_hasRoomForRight 6 = .ok (.if_icmp .ge 7, 3) := by decide +kernel
theorem dX0_hasRoomForRight_9 : decode cX0_hasRoomForRight 9 = .ok (.iconst 1, 1) := by decide +kernel
theorem dX0_hasRoomForRight_10 : decode cX0_hasRoomForRight 10 = .ok (.goto 4, 3) := by decide +kernel
theorem dX0_hasRoomForRight_13 : decode cX0_hasRoomForRight 13 = .ok (.iconst 0, 1) := by decide +kernel
theorem dX0_hasRoomForRight_14 : decode cX0_hasRoomForRight 14 = .ok (.ireturn, 1) := by decide +kernel
noncomputable def f_X0_hasRoomForRight (a0 : Nat) (μ : Mm) : Option Int32 :=
  if (mm_K μ a0).1 = 1 then (gf_I 1 9 a0 μ).bind fun x1 => if (20 : Int32) ≤ x1 then some (0 : Int32) else some (1 : Int32) else none
abbrev Rn_X0_hasRoomForRight (G : Gv) (Q : Option Value → Mm → Prop) (pc : Nat) (lv : List (Nat × Value)) (st : List Value) (μ : Mm) : Prop := Rn G RX0 cX0_hasRoomForRight 1 (some .boolean) "hasRoomForRight" (rmd 0 0 0) (Zm G 0 0 Q) 0 0 pc lv st μ
set_option maxRecDepth 100000 in
set_option maxHeartbeats 4000000 in
theorem m_X0_hasRoomForRight {G : Gv} (a0 : Nat) (μ : Mm) {r : Int32} (hx : f_X0_hasRoomForRight a0 μ = some r) : Mt G yX0_hasRoomForRight cX0_hasRoomForRight 1 (some .boolean) 0 0 0 [.ref a0] μ (fun v μ' => v = some (.int r) ∧ μ' = μ) := by
  refine Mt.of (by decide) (Nat.le_of_ble_eq_true rfl) ?_
  show Rn_X0_hasRoomForRight G (fun v μ' => v = some (.int r) ∧ μ' = μ) 0 [(0, .ref a0)] [] μ
  obtain ⟨_, h⟩ := Sat_ifp (show Sat (f_X0_hasRoomForRight a0 μ) (fun x => x = r) from ⟨_, hx, rfl⟩)
  refine r_aload_n dX0_hasRoomForRight_0 0 rfl ?_
  obtain ⟨x1, e1, h⟩ := Sat_bind h
  refine r_getI fk_X0_40 rfl e1 dX0_hasRoomForRight_1 ?_
  refine r_bipush (v := 20) dX0_hasRoomForRight_4 (by decide) ?_
  refine r_icmp_ge 13 dX0_hasRoomForRight_6 (by decide) (fun c6 => ?_) (fun c6 => ?_)
  · have h := Sat_pos c6 h
    refine r_iconst (v := 0) dX0_hasRoomForRight_13 (by decide) ?_
    exact r_zreturn rfl (by decide) (by rw [← Sat_eq h]; exact ⟨rfl, rfl⟩) dX0_hasRoomForRight_14
  · have h := Sat_neg c6 h
    refine r_iconst (v := 1) dX0_hasRoomForRight_9 (by decide) ?_
    refine r_goto 14 dX0_hasRoomForRight_10 (by decide) ?_
    exact r_zreturn rfl (by decide) (by rw [← Sat_eq h]; exact ⟨rfl, rfl⟩) dX0_hasRoomForRight_14
theorem dX0_addRight_0 : decode cX0_addRight 0 = .ok (.aload_n 0, 1) := by decide +kernel
theorem dX0_addRight_1 : decode cX0_addRight 1 = .ok (.invokevirtual 54, 3) := by decide +kernel
theorem dX0_addRight_4 : decode cX0_addRight 4 = .ok (.ifCond .ne 6, 3) := by decide +kernel
theorem dX0_addRight_7 : decode cX0_addRight 7 = .ok (.bipush (-3), 2) := by decide +kernel
theorem dX0_addRight_9 : decode cX0_addRight 9 = .ok (.ireturn, 1) := by decide +kernel
theorem dX0_addRight_10 : decode cX0_addRight 10 = .ok (.aload_n 0, 1) := by decide +kernel
theorem dX0_addRight_11 : decode cX0_addRight 11 = .ok (.iload_n 1, 1) := by decide +kernel
theorem dX0_addRight_12 : decode cX0_addRight 12 = .ok (.putfield 43, 3) := by decide +kernel
theorem dX0_addRight_15 : decode cX0_addRight 15 = .ok (.aload_n 0, 1) := by decide +kernel
theorem dX0_addRight_16 : decode cX0_addRight 16 = .ok (.getfield 27, 3) := by decide +kernel
theorem dX0_addRight_19 : decode cX0_addRight 19 = .ok (.aload_n 0, 1) := by decide +kernel
theorem dX0_addRight_20 : decode cX0_addRight 20 = .ok (.getfield 40, 3) := by decide +kernel
theorem dX0_addRight_23 : decode cX0_addRight 23 = .ok (.iload_n 1, 1) := by decide +kernel
theorem dX0_addRight_24 : decode cX0_addRight 24 = .ok (.iastore, 1) := by decide +kernel
theorem dX0_addRight_25 : decode cX0_addRight 25 = .ok (.aload_n 0, 1) := by decide +kernel
theorem dX0_addRight_26 : decode cX0_addRight 26 = .ok (.getfield 30, 3) := by decide +kernel
theorem dX0_addRight_29 : decode cX0_addRight 29 = .ok (.aload_n 0, 1) := by decide +kernel
theorem dX0_addRight_30 : decode cX0_addRight 30 = .ok (.getfield 40, 3) := by decide +kernel
theorem dX0_addRight_33 : decode cX0_addRight 33 = .ok (.iload_n 2, 1) := by decide +kernel
theorem dX0_addRight_34 : decode cX0_addRight 34 = .ok (.iastore, 1) := by decide +kernel
theorem dX0_addRight_35 : decode cX0_addRight 35 = .ok (.aload_n 0, 1) := by decide +kernel
theorem dX0_addRight_36 : decode cX0_addRight 36 = .ok (.getfield 33, 3) := by decide +kernel
theorem dX0_addRight_39 : decode cX0_addRight 39 = .ok (.aload_n 0, 1) := by decide +kernel
theorem dX0_addRight_40 : decode cX0_addRight 40 = .ok (.getfield 40, 3) := by decide +kernel
theorem dX0_addRight_43 : decode cX0_addRight 43 = .ok (.iload_n 3, 1) := by decide +kernel
theorem dX0_addRight_44 : decode cX0_addRight 44 = .ok (.iastore, 1) := by decide +kernel
theorem dX0_addRight_45 : decode cX0_addRight 45 = .ok (.aload_n 0, 1) := by decide +kernel
theorem dX0_addRight_46 : decode cX0_addRight 46 = .ok (.dup, 1) := by decide +kernel
theorem dX0_addRight_47 : decode cX0_addRight 47 = .ok (.getfield 40, 3) := by decide +kernel
theorem dX0_addRight_50 : decode cX0_addRight 50 = .ok (.iconst 1, 1) := by decide +kernel
theorem dX0_addRight_51 : decode cX0_addRight 51 = .ok (.iadd, 1) := by decide +kernel
theorem dX0_addRight_52 : decode cX0_addRight 52 = .ok (.putfield 40, 3) := by decide +kernel
theorem dX0_addRight_55 : decode cX0_addRight 55 = .ok (.iconst 0, 1) := by decide +kernel
theorem dX0_addRight_56 : decode cX0_addRight 56 = .ok (.istore 4, 2) := by decide +kernel
theorem dX0_addRight_58 : decode cX0_addRight 58 = .ok (.iconst 0, 1) := by decide +kernel
theorem dX0_addRight_59 : decode cX0_addRight 59 = .ok (.istore 5, 2) := by decide +kernel
theorem dX0_addRight_61 : decode cX0_addRight 61 = .ok (.iload 5, 2) := by decide +kernel
theorem dX0_addRight_63 : decode cX0_addRight 63 = .ok (.aload_n 0, 1) := by decide +kernel
theorem dX0_addRight_64 : decode cX0_addRight 64 = .ok (.getfield 40, 3) := by decide +kernel
theorem dX0_addRight_67 : decode cX0_addRight 67 = .ok (.if_icmp .ge 23, 3) := by decide +kernel
theorem dX0_addRight_70 : decode cX0_addRight 70 = .ok (.aload_n 0, 1) := by decide +kernel
theorem dX0_addRight_71 : decode cX0_addRight 71 = .ok (.getfield 30, 3) := by decide +kernel
theorem dX0_addRight_74 : decode cX0_addRight 74 = .ok (.iload 5, 2) := by decide +kernel
theorem dX0_addRight_76 : decode cX0_addRight 76 = .ok (.iaload, 1) := by decide +kernel
theorem dX0_addRight_77 : decode cX0_addRight 77 = .ok (.iload_n 2, 1) := by decide +kernel
theorem dX0_addRight_78 : decode cX0_addRight 78 = .ok (.if_icmp .ne 6, 3) := by decide +kernel
theorem dX0_addRight_81 : decode cX0_addRight 81 = .ok (.iinc 4 1, 3) := by decide +kernel
theorem dX0_addRight_84 : decode cX0_addRight 84 = .ok (.iinc 5 1, 3) := by decide +kernel
theorem dX0_addRight_87 : decode cX0_addRight 87 = .ok (.goto (-26), 3) := by decide +kernel
theorem dX0_addRight_90 : decode cX0_addRight 90 = .ok (.iload 4, 2) := by decide +kernel
theorem dX0_addRight_92 : decode cX0_addRight 92 = .ok (.ireturn, 1) := by decide +kernel
noncomputable def f_X0_addRight_J84 (a0 : Nat) (l2 : Int32) (l4 : Int32) (l5 : Int32) (μ : Mm) : Option ((Int32 × Int32) ⊕ (Int32)) :=
  (some (l5 + (1 : Int32))).bind fun v84 => some (.inl (l4, v84))
noncomputable def f_X0_addRight_L61 (a0 : Nat) (l2 : Int32) (μ : Mm) (s61 : Int32 × Int32) : Option ((Int32 × Int32) ⊕ (Int32)) :=
  (gf_I 1 9 a0 μ).bind fun x64 => if x64 ≤ s61.2 then some (.inr s61.1) else (gf_P 1 6 a0 μ).bind fun x71 => (ga_I x71 s61.2 μ).bind fun x76 => if x76 = l2 then (some (s61.1 + (1 : Int32))).bind fun v81 => f_X0_addRight_J84 a0 l2 v81 s61.2 μ else f_X0_addRight_J84 a0 l2 s61.1 s61.2 μ
noncomputable def f_X0_addRight (a0 : Nat) (l1 : Int32) (l2 : Int32) (l3 : Int32) (μ : Mm) : Option (Int32 × Mm) :=
  if (mm_K μ a0).1 = 1 then (f_X0_hasRoomForRight a0 μ).bind fun x1 => if x1 = 0 then some ((-3 : Int32), μ) else (pf_I 1 10 a0 l1 μ).bind fun μ12 => (gf_P 1 5 a0 μ12).bind fun x16 => (gf_I 1 9 a0 μ12).bind fun x20 => (pa_I x16 x20 l1 μ12).bind fun μ24 => (gf_P 1 6 a0 μ24).bind fun x26 => (gf_I 1 9 a0 μ24).bind fun x30 => (pa_I x26 x30 l2 μ24).bind fun μ34 => (gf_P 1 7 a0 μ34).bind fun x36 => (gf_I 1 9 a0 μ34).bind fun x40 => (pa_I x36 x40 l3 μ34).bind fun μ44 => (gf_I 1 9 a0 μ44).bind fun x47 => (pf_I 1 9 a0 (x47 + (1 : Int32)) μ44).bind fun μ52 => (whl (f_X0_addRight_L61 a0 l2 μ52) ((0 : Int32), (0 : Int32))).bind (fun b61 => some (b61, μ52)) else none
abbrev Rn_X0_addRight (G : Gv) (Q : Option Value → Mm → Prop) (pc : Nat) (lv : List (Nat × Value)) (st : List Value) (μ : Mm) : Prop := Rn G RX0 cX0_addRight 6 (some .int) "addRight" (rmd 1 0 0) (Zm G 0 0 Q) 0 0 pc lv st μ
set_option maxRecDepth 100000 in
set_option maxHeartbeats 4000000 in
theorem m_X0_addRight {G : Gv} (a0 : Nat) (l1 : Int32) (l2 : Int32) (l3 : Int32) (μ : Mm) {r : (Int32 × Mm)} (hx : f_X0_addRight a0 l1 l2 l3 μ = some r) : Mt G yX0_addRight cX0_addRight 6 (some .int) 1 0 0 [.ref a0, .int l1, .int l2, .int l3] μ (fun v μ' => v = some (.int r.1) ∧ μ' = r.2) := by
  refine Mt.of (by decide) (Nat.le_of_ble_eq_true rfl) ?_
  show Rn_X0_addRight G (fun v μ' => v = some (.int r.1) ∧ μ' = r.2) 0 [(0, .ref a0), (1, .int l1), (2, .int l2), (3, .int l3)] [] μ
  obtain ⟨_, h⟩ := Sat_ifp (show Sat (f_X0_addRight a0 l1 l2 l3 μ) (fun x => x = r) from ⟨_, hx, rfl⟩)
  refine r_aload_n dX0_addRight_0 0 rfl ?_
  obtain ⟨x1, e1, h⟩ := Sat_bind h
  refine r_cV (t := 1) [] [] (m_X0_hasRoomForRight a0 μ e1) ck_X0_hasRoomForRight lk_X0_54 in_X0_hasRoomForRight se_X0_hasRoomForRight (kd_of e1) ⟨rfl, by decide, by decide⟩ rfl rfl (Nat.le_of_ble_eq_true rfl) ⟨by decide, by decide⟩ ⟨Nat.zero_le _, Nat.zero_le _⟩ dX0_addRight_1 ?_
  refine r_if_ne 10 dX0_addRight_4 (by decide) (fun c4 => ?_) (fun c4 => ?_)
  · have h := Sat_neg c4 h
    refine r_aload_n dX0_addRight_10 0 rfl ?_
    refine r_iload_n dX0_addRight_11 1 rfl ?_
    obtain ⟨μ12, e12, h⟩ := Sat_bind h
    refine r_putI fk_X0_43 rfl rfl e12 dX0_addRight_12 ?_
    refine r_aload_n dX0_addRight_15 0 rfl ?_
    obtain ⟨x16, e16, h⟩ := Sat_bind h
    refine r_getP fk_X0_27 rfl e16 dX0_addRight_16 ?_
    refine r_aload_n dX0_addRight_19 0 rfl ?_
    obtain ⟨x20, e20, h⟩ := Sat_bind h
    refine r_getI fk_X0_40 rfl e20 dX0_addRight_20 ?_
    refine r_iload_n dX0_addRight_23 1 rfl ?_
    obtain ⟨μ24, e24, h⟩ := Sat_bind h
    refine r_iastore e24 dX0_addRight_24 ?_
    refine r_aload_n dX0_addRight_25 0 rfl ?_
    obtain ⟨x26, e26, h⟩ := Sat_bind h
    refine r_getP fk_X0_30 rfl e26 dX0_addRight_26 ?_
    refine r_aload_n dX0_addRight_29 0 rfl ?_
    obtain ⟨x30, e30, h⟩ := Sat_bind h
    refine r_getI fk_X0_40 rfl e30 dX0_addRight_30 ?_
    refine r_iload_n dX0_addRight_33 2 rfl ?_
    obtain ⟨μ34, e34, h⟩ := Sat_bind h
    refine r_iastore e34 dX0_addRight_34 ?_
    refine r_aload_n dX0_addRight_35 0 rfl ?_
    obtain ⟨x36, e36, h⟩ := Sat_bind h
    refine r_getP fk_X0_33 rfl e36 dX0_addRight_36 ?_
    refine r_aload_n dX0_addRight_39 0 rfl ?_
    obtain ⟨x40, e40, h⟩ := Sat_bind h
    refine r_getI fk_X0_40 rfl e40 dX0_addRight_40 ?_
    refine r_iload_n dX0_addRight_43 3 rfl ?_
    obtain ⟨μ44, e44, h⟩ := Sat_bind h
    refine r_iastore e44 dX0_addRight_44 ?_
    refine r_aload_n dX0_addRight_45 0 rfl ?_
    refine r_dup dX0_addRight_46 rfl ?_
    obtain ⟨x47, e47, h⟩ := Sat_bind h
    refine r_getI fk_X0_40 rfl e47 dX0_addRight_47 ?_
    refine r_iconst (v := 1) dX0_addRight_50 (by decide) ?_
    refine r_iadd dX0_addRight_51 ?_
    obtain ⟨μ52, e52, h⟩ := Sat_bind h
    refine r_putI fk_X0_40 rfl rfl e52 dX0_addRight_52 ?_
    refine r_iconst (v := 0) dX0_addRight_55 (by decide) ?_
    refine r_istore (lv' := [(4, .int (0 : Int32)), (0, .ref a0), (1, .int l1), (2, .int l2), (3, .int l3)]) dX0_addRight_56 (by decide) rfl ?_
    refine r_iconst (v := 0) dX0_addRight_58 (by decide) ?_
    refine r_istore (lv' := [(5, .int (0 : Int32)), (4, .int (0 : Int32)), (0, .ref a0), (1, .int l1), (2, .int l2), (3, .int l3)]) dX0_addRight_59 (by decide) rfl ?_
    refine r_sub (lv' := [(0, .ref a0), (2, .int l2), (4, .int (0 : Int32)), (5, .int (0 : Int32))]) [2, 4, 1, 0] rfl ?_
    refine whl_K (s0 := (((0 : Int32), (0 : Int32)) : Int32 × Int32)) (RR := fun (s61 : Int32 × Int32) => Rn_X0_addRight G (fun v μ' => v = some (.int r.1) ∧ μ' = r.2) 61 [(0, .ref a0), (2, .int l2), (4, .int s61.1), (5, .int s61.2)] [] μ52) ?_ (Sat_bindK h)
    intro s61 K61 hI61 hX61 h
    have J84 : ∀ (l4_84 : Int32) (l5_84 : Int32), Sat (f_X0_addRight_J84 a0 l2 l4_84 l5_84 μ52) K61 → Rn_X0_addRight G (fun v μ' => v = some (.int r.1) ∧ μ' = r.2) 84 [(0, .ref a0), (2, .int l2), (4, .int l4_84), (5, .int l5_84)] [] μ52 := by
      intro l4_84 l5_84 h
      obtain ⟨v84, e84, h⟩ := Sat_bind h
      refine r_iinc (j := 3) (v := v84) (lv' := [(5, .int v84), (0, .ref a0), (2, .int l2), (4, .int l4_84)]) dX0_addRight_84 rfl (iinc_v e84 (by decide)) (by decide) rfl ?_
      refine r_goto 61 dX0_addRight_87 (by decide) ?_
      exact r_sub [1, 2, 3, 0] rfl (hI61 _ (Sat_some h))
    refine r_iload dX0_addRight_61 3 rfl ?_
    refine r_aload_n dX0_addRight_63 0 rfl ?_
    obtain ⟨x64, e64, h⟩ := Sat_bind h
    refine r_getI fk_X0_40 rfl e64 dX0_addRight_64 ?_
    refine r_icmp_ge 90 dX0_addRight_67 (by decide) (fun c67 => ?_) (fun c67 => ?_)
    · have h := Sat_pos c67 h
      have h := hX61 _ (Sat_some h)
      refine r_iload dX0_addRight_90 2 rfl ?_
      exact r_ireturn rfl (by rw [← Sat_eq h]; exact ⟨rfl, rfl⟩) dX0_addRight_92
    · have h := Sat_neg c67 h
      refine r_aload_n dX0_addRight_70 0 rfl ?_
      obtain ⟨x71, e71, h⟩ := Sat_bind h
      refine r_getP fk_X0_30 rfl e71 dX0_addRight_71 ?_
      refine r_iload dX0_addRight_74 3 rfl ?_
      obtain ⟨x76, e76, h⟩ := Sat_bind h
      refine r_iaload e76 dX0_addRight_76 ?_
      refine r_iload_n dX0_addRight_77 1 rfl ?_
      refine r_icmp_ne 84 dX0_addRight_78 (by decide) (fun c78 => ?_) (fun c78 => ?_)
      · have h := Sat_neg c78 h
        exact r_sub [0, 1, 2, 3] rfl (J84 s61.1 s61.2 h)
      · have h := Sat_pos c78 h
        obtain ⟨v81, e81, h⟩ := Sat_bind h
        refine r_iinc (j := 2) (v := v81) (lv' := [(4, .int v81), (0, .ref a0), (2, .int l2), (5, .int s61.2)]) dX0_addRight_81 rfl (iinc_v e81 (by decide)) (by decide) rfl ?_
        exact r_sub [1, 2, 0, 3] rfl (J84 v81 s61.2 h)
  · have h := Sat_pos c4 h
    refine r_bipush (v := -3) dX0_addRight_7 (by decide) ?_
    exact r_ireturn rfl (by rw [← Sat_eq h]; exact ⟨rfl, rfl⟩) dX0_addRight_9
theorem dX0_clear_0 : decode cX0_clear 0 = .ok (.aload_n 0, 1) := by decide +kernel
theorem dX0_clear_1 : decode cX0_clear 1 = .ok (.iconst 0, 1) := by decide +kernel
theorem dX0_clear_2 : decode cX0_clear 2 = .ok (.putfield 36, 3) := by decide +kernel
theorem dX0_clear_5 : decode cX0_clear 5 = .ok (.aload_n 0, 1) := by decide +kernel
theorem dX0_clear_6 : decode cX0_clear 6 = .ok (.iconst 0, 1) := by decide +kernel
theorem dX0_clear_7 : decode cX0_clear 7 = .ok (.putfield 40, 3) := by decide +kernel
theorem dX0_clear_10 : decode cX0_clear 10 = .ok (.aload_n 0, 1) := by decide +kernel
theorem dX0_clear_11 : decode cX0_clear 11 = .ok (.iconst 0, 1) := by decide +kernel
theorem dX0_clear_12 : decode cX0_clear 12 = .ok (.putfield 43, 3) := by decide +kernel
theorem dX0_clear_15 : decode cX0_clear 15 = .ok (.return_, 1) := by decide +kernel
noncomputable def f_X0_clear (a0 : Nat) (μ : Mm) : Option Mm :=
  if (mm_K μ a0).1 = 1 then (pf_I 1 8 a0 (0 : Int32) μ).bind fun μ2 => (pf_I 1 9 a0 (0 : Int32) μ2).bind fun μ7 => (pf_I 1 10 a0 (0 : Int32) μ7).bind fun μ12 => some μ12 else none
abbrev Rn_X0_clear (G : Gv) (Q : Option Value → Mm → Prop) (pc : Nat) (lv : List (Nat × Value)) (st : List Value) (μ : Mm) : Prop := Rn G RX0 cX0_clear 1 none "clear" (rmd 0 0 0) (Zm G 0 0 Q) 0 0 pc lv st μ
set_option maxRecDepth 100000 in
set_option maxHeartbeats 4000000 in
theorem m_X0_clear {G : Gv} (a0 : Nat) (μ : Mm) {r : Mm} (hx : f_X0_clear a0 μ = some r) : Mt G yX0_clear cX0_clear 1 none 0 0 0 [.ref a0] μ (fun v μ' => v = none ∧ μ' = r) := by
  refine Mt.of (by decide) (Nat.le_of_ble_eq_true rfl) ?_
  show Rn_X0_clear G (fun v μ' => v = none ∧ μ' = r) 0 [(0, .ref a0)] [] μ
  obtain ⟨_, h⟩ := Sat_ifp (show Sat (f_X0_clear a0 μ) (fun x => x = r) from ⟨_, hx, rfl⟩)
  refine r_aload_n dX0_clear_0 0 rfl ?_
  refine r_iconst (v := 0) dX0_clear_1 (by decide) ?_
  obtain ⟨μ2, e2, h⟩ := Sat_bind h
  refine r_putI fk_X0_36 rfl rfl e2 dX0_clear_2 ?_
  refine r_aload_n dX0_clear_5 0 rfl ?_
  refine r_iconst (v := 0) dX0_clear_6 (by decide) ?_
  obtain ⟨μ7, e7, h⟩ := Sat_bind h
  refine r_putI fk_X0_40 rfl rfl e7 dX0_clear_7 ?_
  refine r_aload_n dX0_clear_10 0 rfl ?_
  refine r_iconst (v := 0) dX0_clear_11 (by decide) ?_
  obtain ⟨μ12, e12, h⟩ := Sat_bind h
  refine r_putI fk_X0_43 rfl rfl e12 dX0_clear_12 ?_
  exact r_vreturn rfl (by rw [← Sat_eq h]; exact ⟨rfl, rfl⟩) dX0_clear_15
theorem dX0_knewAt_0 : decode cX0_knewAt 0 = .ok (.iload_n 1, 1) := by decide +kernel
theorem dX0_knewAt_1 : decode cX0_knewAt 1 = .ok (.ifCond .lt 11, 3) := by decide +kernel
theorem dX0_knewAt_4 : decode cX0_knewAt 4 = .ok (.iload_n 1, 1) := by decide +kernel
theorem dX0_knewAt_5 : decode cX0_knewAt 5 = .ok (.aload_n 0, 1) := by decide +kernel
theorem dX0_knewAt_6 : decode cX0_knewAt 6 = .ok (.getfield 36, 3) := by decide +kernel
theorem dX0_knewAt_9 : decode cX0_knewAt 9 = .ok (.if_icmp .lt 5, 3) := by decide +kernel
theorem dX0_knewAt_12 : decode cX0_knewAt 12 = .ok (.iconst (-1), 1) := by decide +kernel
theorem dX0_knewAt_13 : decode cX0_knewAt 13 = .ok (.ireturn, 1) := by decide +kernel
theorem dX0_knewAt_14 : decode cX0_knewAt 14 = .ok (.aload_n 0, 1) := by decide +kernel
theorem dX0_knewAt_15 : decode cX0_knewAt 15 = .ok (.getfield 24, 3) := by decide +kernel
theorem dX0_knewAt_18 : decode cX0_knewAt 18 = .ok (.iload_n 1, 1) := by decide +kernel
theorem dX0_knewAt_19 : decode cX0_knewAt 19 = .ok (.iaload, 1) := by decide +kernel
theorem dX0_knewAt_20 : decode cX0_knewAt 20 = .ok (.istore_n 3, 1) := by decide +kernel
theorem dX0_knewAt_21 : decode cX0_knewAt 21 = .ok (.iconst 0, 1) := by decide +kernel
theorem dX0_knewAt_22 : decode cX0_knewAt 22 = .ok (.istore 4, 2) := by decide +kernel
theorem dX0_knewAt_24 : decode cX0_knewAt 24 = .ok (.iload 4, 2) := by decide +kernel
theorem dX0_knewAt_26 : decode cX0_knewAt 26 = .ok (.aload_n 0, 1) := by decide +kernel
theorem dX0_knewAt_27 : decode cX0_knewAt 27 = .ok (.getfield 40, 3) := by decide +kernel
theorem dX0_knewAt_30 : decode cX0_knewAt 30 = .ok (.if_icmp .ge 39, 3) := by decide +kernel
theorem dX0_knewAt_33 : decode cX0_knewAt 33 = .ok (.aload_n 0, 1) := by decide +kernel
theorem dX0_knewAt_34 : decode cX0_knewAt 34 = .ok (.getfield 27, 3) := by decide +kernel
theorem dX0_knewAt_37 : decode cX0_knewAt 37 = .ok (.iload 4, 2) := by decide +kernel
theorem dX0_knewAt_39 : decode cX0_knewAt 39 = .ok (.iaload, 1) := by decide +kernel
theorem dX0_knewAt_40 : decode cX0_knewAt 40 = .ok (.iload_n 2, 1) := by decide +kernel
theorem dX0_knewAt_41 : decode cX0_knewAt 41 = .ok (.if_icmp .gt 28, 3) := by decide +kernel
theorem dX0_knewAt_44 : decode cX0_knewAt 44 = .ok (.aload_n 0, 1) := by decide +kernel
theorem dX0_knewAt_45 : decode cX0_knewAt 45 = .ok (.getfield 30, 3) := by decide +kernel
theorem dX0_knewAt_48 : decode cX0_knewAt 48 = .ok (.iload 4, 2) := by decide +kernel
theorem dX0_knewAt_50 : decode cX0_knewAt 50 = .ok (.iaload, 1) := by decide +kernel
theorem dX0_knewAt_51 : decode cX0_knewAt 51 = .ok (.iload_n 1, 1) := by decide +kernel
theorem dX0_knewAt_52 : decode cX0_knewAt 52 = .ok (.if_icmp .ne 11, 3) := by decide +kernel
theorem dX0_knewAt_55 : decode cX0_knewAt 55 = .ok (.aload_n 0, 1) := by decide +kernel
theorem dX0_knewAt_56 : decode cX0_knewAt 56 = .ok (.getfield 33, 3) := by decide +kernel
theorem dX0_knewAt_59 : decode cX0_knewAt 59 = .ok (.iload 4, 2) := by decide +kernel
theorem dX0_knewAt_61 : decode cX0_knewAt 61 = .ok (.iaload, 1) := by decide +kernel
theorem dX0_knewAt_62 : decode cX0_knewAt 62 = .ok (.istore_n 3, 1) := by decide +kernel
theorem dX0_knewAt_63 : decode cX0_knewAt 63 = .ok (.iinc 4 1, 3) := by decide +kernel
theorem dX0_knewAt_66 : decode cX0_knewAt 66 = .ok (.goto (-42), 3) := by decide +kernel
theorem dX0_knewAt_69 : decode cX0_knewAt 69 = .ok (.iload_n 3, 1) := by decide +kernel
theorem dX0_knewAt_70 : decode cX0_knewAt 70 = .ok (.ireturn, 1) := by decide +kernel
noncomputable def f_X0_knewAt_J63 (a0 : Nat) (l1 : Int32) (l2 : Int32) (l3 : Int32) (l4 : Int32) (μ : Mm) : Option ((Int32 × Int32) ⊕ (Int32)) :=
  (some (l4 + (1 : Int32))).bind fun v63 => some (.inl (l3, v63))
noncomputable def f_X0_knewAt_L24 (a0 : Nat) (l1 : Int32) (l2 : Int32) (μ : Mm) (s24 : Int32 × Int32) : Option ((Int32 × Int32) ⊕ (Int32)) :=
  (gf_I 1 9 a0 μ).bind fun x27 => if x27 ≤ s24.2 then some (.inr s24.1) else (gf_P 1 5 a0 μ).bind fun x34 => (ga_I x34 s24.2 μ).bind fun x39 => if l2 < x39 then some (.inr s24.1) else (gf_P 1 6 a0 μ).bind fun x45 => (ga_I x45 s24.2 μ).bind fun x50 => if x50 = l1 then (gf_P 1 7 a0 μ).bind fun x56 => (ga_I x56 s24.2 μ).bind fun x61 => f_X0_knewAt_J63 a0 l1 l2 x61 s24.2 μ else f_X0_knewAt_J63 a0 l1 l2 s24.1 s24.2 μ
noncomputable def f_X0_knewAt (a0 : Nat) (l1 : Int32) (l2 : Int32) (μ : Mm) : Option Int32 :=
  if (mm_K μ a0).1 = 1 then if l1 < 0 then some (-1 : Int32) else (gf_I 1 8 a0 μ).bind fun x6 => if l1 < x6 then (gf_P 1 4 a0 μ).bind fun x15 => (ga_I x15 l1 μ).bind fun x19 => (whl (f_X0_knewAt_L24 a0 l1 l2 μ) (x19, (0 : Int32))).bind (fun b24 => some b24) else some (-1 : Int32) else none
abbrev Rn_X0_knewAt (G : Gv) (Q : Option Value → Mm → Prop) (pc : Nat) (lv : List (Nat × Value)) (st : List Value) (μ : Mm) : Prop := Rn G RX0 cX0_knewAt 5 (some .int) "knewAt" (rmd 0 0 0) (Zm G 0 0 Q) 0 0 pc lv st μ
set_option maxRecDepth 100000 in
set_option maxHeartbeats 4000000 in
theorem m_X0_knewAt {G : Gv} (a0 : Nat) (l1 : Int32) (l2 : Int32) (μ : Mm) {r : Int32} (hx : f_X0_knewAt a0 l1 l2 μ = some r) : Mt G yX0_knewAt cX0_knewAt 5 (some .int) 0 0 0 [.ref a0, .int l1, .int l2] μ (fun v μ' => v = some (.int r) ∧ μ' = μ) := by
  refine Mt.of (by decide) (Nat.le_of_ble_eq_true rfl) ?_
  show Rn_X0_knewAt G (fun v μ' => v = some (.int r) ∧ μ' = μ) 0 [(0, .ref a0), (1, .int l1), (2, .int l2)] [] μ
  obtain ⟨_, h⟩ := Sat_ifp (show Sat (f_X0_knewAt a0 l1 l2 μ) (fun x => x = r) from ⟨_, hx, rfl⟩)
  refine r_iload_n dX0_knewAt_0 1 rfl ?_
  refine r_if_lt 12 dX0_knewAt_1 (by decide) (fun c1 => ?_) (fun c1 => ?_)
  · have h := Sat_pos c1 h
    refine r_iconst (v := -1) dX0_knewAt_12 (by decide) ?_
    exact r_ireturn rfl (by rw [← Sat_eq h]; exact ⟨rfl, rfl⟩) dX0_knewAt_13
  · have h := Sat_neg c1 h
    refine r_iload_n dX0_knewAt_4 1 rfl ?_
    refine r_aload_n dX0_knewAt_5 0 rfl ?_
    obtain ⟨x6, e6, h⟩ := Sat_bind h
    refine r_getI fk_X0_36 rfl e6 dX0_knewAt_6 ?_
    refine r_icmp_lt 14 dX0_knewAt_9 (by decide) (fun c9 => ?_) (fun c9 => ?_)
    · have h := Sat_pos c9 h
      refine r_aload_n dX0_knewAt_14 0 rfl ?_
      obtain ⟨x15, e15, h⟩ := Sat_bind h
      refine r_getP fk_X0_24 rfl e15 dX0_knewAt_15 ?_
      refine r_iload_n dX0_knewAt_18 1 rfl ?_
      obtain ⟨x19, e19, h⟩ := Sat_bind h
      refine r_iaload e19 dX0_knewAt_19 ?_
      refine r_istore_n (lv' := [(3, .int x19), (0, .ref a0), (1, .int l1), (2, .int l2)]) dX0_knewAt_20 rfl (by decide) rfl ?_
      refine r_iconst (v := 0) dX0_knewAt_21 (by decide) ?_
      refine r_istore (lv' := [(4, .int (0 : Int32)), (3, .int x19), (0, .ref a0), (1, .int l1), (2, .int l2)]) dX0_knewAt_22 (by decide) rfl ?_
      refine r_sub (lv' := [(0, .ref a0), (1, .int l1), (2, .int l2), (3, .int x19), (4, .int (0 : Int32))]) [2, 3, 4, 1, 0] rfl ?_
      refine whl_K (s0 := ((x19, (0 : Int32)) : Int32 × Int32)) (RR := fun (s24 : Int32 × Int32) => Rn_X0_knewAt G (fun v μ' => v = some (.int r) ∧ μ' = μ) 24 [(0, .ref a0), (1, .int l1), (2, .int l2), (3, .int s24.1), (4, .int s24.2)] [] μ) ?_ (Sat_bindK h)
      intro s24 K24 hI24 hX24 h
      have J63 : ∀ (l3_63 : Int32) (l4_63 : Int32), Sat (f_X0_knewAt_J63 a0 l1 l2 l3_63 l4_63 μ) K24 → Rn_X0_knewAt G (fun v μ' => v = some (.int r) ∧ μ' = μ) 63 [(0, .ref a0), (1, .int l1), (2, .int l2), (3, .int l3_63), (4, .int l4_63)] [] μ := by
        intro l3_63 l4_63 h
        obtain ⟨v63, e63, h⟩ := Sat_bind h
        refine r_iinc (j := 4) (v := v63) (lv' := [(4, .int v63), (0, .ref a0), (1, .int l1), (2, .int l2), (3, .int l3_63)]) dX0_knewAt_63 rfl (iinc_v e63 (by decide)) (by decide) rfl ?_
        refine r_goto 24 dX0_knewAt_66 (by decide) ?_
        exact r_sub [1, 2, 3, 4, 0] rfl (hI24 _ (Sat_some h))
      refine r_iload dX0_knewAt_24 4 rfl ?_
      refine r_aload_n dX0_knewAt_26 0 rfl ?_
      obtain ⟨x27, e27, h⟩ := Sat_bind h
      refine r_getI fk_X0_40 rfl e27 dX0_knewAt_27 ?_
      refine r_icmp_ge 69 dX0_knewAt_30 (by decide) (fun c30 => ?_) (fun c30 => ?_)
      · have h := Sat_pos c30 h
        have h := hX24 _ (Sat_some h)
        refine r_iload_n dX0_knewAt_69 3 rfl ?_
        exact r_ireturn rfl (by rw [← Sat_eq h]; exact ⟨rfl, rfl⟩) dX0_knewAt_70
      · have h := Sat_neg c30 h
        refine r_aload_n dX0_knewAt_33 0 rfl ?_
        obtain ⟨x34, e34, h⟩ := Sat_bind h
        refine r_getP fk_X0_27 rfl e34 dX0_knewAt_34 ?_
        refine r_iload dX0_knewAt_37 4 rfl ?_
        obtain ⟨x39, e39, h⟩ := Sat_bind h
        refine r_iaload e39 dX0_knewAt_39 ?_
        refine r_iload_n dX0_knewAt_40 2 rfl ?_
        refine r_icmp_gt 69 dX0_knewAt_41 (by decide) (fun c41 => ?_) (fun c41 => ?_)
        · have h := Sat_pos c41 h
          have h := hX24 _ (Sat_some h)
          refine r_iload_n dX0_knewAt_69 3 rfl ?_
          exact r_ireturn rfl (by rw [← Sat_eq h]; exact ⟨rfl, rfl⟩) dX0_knewAt_70
        · have h := Sat_neg c41 h
          refine r_aload_n dX0_knewAt_44 0 rfl ?_
          obtain ⟨x45, e45, h⟩ := Sat_bind h
          refine r_getP fk_X0_30 rfl e45 dX0_knewAt_45 ?_
          refine r_iload dX0_knewAt_48 4 rfl ?_
          obtain ⟨x50, e50, h⟩ := Sat_bind h
          refine r_iaload e50 dX0_knewAt_50 ?_
          refine r_iload_n dX0_knewAt_51 1 rfl ?_
          refine r_icmp_ne 63 dX0_knewAt_52 (by decide) (fun c52 => ?_) (fun c52 => ?_)
          · have h := Sat_neg c52 h
            exact r_sub [0, 1, 2, 3, 4] rfl (J63 s24.1 s24.2 h)
          · have h := Sat_pos c52 h
            refine r_aload_n dX0_knewAt_55 0 rfl ?_
            obtain ⟨x56, e56, h⟩ := Sat_bind h
            refine r_getP fk_X0_33 rfl e56 dX0_knewAt_56 ?_
            refine r_iload dX0_knewAt_59 4 rfl ?_
            obtain ⟨x61, e61, h⟩ := Sat_bind h
            refine r_iaload e61 dX0_knewAt_61 ?_
            refine r_istore_n (lv' := [(3, .int x61), (0, .ref a0), (1, .int l1), (2, .int l2), (4, .int s24.2)]) dX0_knewAt_62 rfl (by decide) rfl ?_
            exact r_sub [1, 2, 3, 0, 4] rfl (J63 x61 s24.2 h)
    · have h := Sat_neg c9 h
      refine r_iconst (v := -1) dX0_knewAt_12 (by decide) ?_
      exact r_ireturn rfl (by rw [← Sat_eq h]; exact ⟨rfl, rfl⟩) dX0_knewAt_13
theorem dX0_knownAt_0 : decode cX0_knownAt 0 = .ok (.iconst 0, 1) := by decide +kernel
theorem dX0_knownAt_1 : decode cX0_knownAt 1 = .ok (.istore_n 2, 1) := by decide +kernel
theorem dX0_knownAt_2 : decode cX0_knownAt 2 = .ok (.iload_n 2, 1) := by decide +kernel
theorem dX0_knownAt_3 : decode cX0_knownAt 3 = .ok (.aload_n 0, 1) := by decide +kernel
theorem dX0_knownAt_4 : decode cX0_knownAt 4 = .ok (.getfield 36, 3) := by decide +kernel
theorem dX0_knownAt_7 : decode cX0_knownAt 7 = .ok (.if_icmp .ge 19, 3) := by decide +kernel
theorem dX0_knownAt_10 : decode cX0_knownAt 10 = .ok (.aload_n 0, 1) := by decide +kernel
theorem dX0_knownAt_11 : decode cX0_knownAt 11 = .ok (.getfield 11, 3) := by decide +kernel
theorem dX0_knownAt_14 : decode cX0_knownAt 14 = .ok (.iload_n 2, 1) := by decide +kernel
theorem dX0_knownAt_15 : decode cX0_knownAt 15 = .ok (.iaload, 1) := by decide +kernel
theorem dX0_knownAt_16 : decode cX0_knownAt 16 = .ok (.iload_n 1, 1) := by decide +kernel
theorem dX0_knownAt_17 : decode cX0_knownAt 17 = .ok (.if_icmp .gt 9, 3) := by decide +kernel
theorem dX0_knownAt_20 : decode cX0_knownAt 20 = .ok (.iinc 2 1, 3) := by decide +kernel
theorem dX0_knownAt_23 : decode cX0_knownAt 23 = .ok (.goto (-21), 3) := by decide +kernel
theorem dX0_knownAt_26 : decode cX0_knownAt 26 = .ok (.iload_n 2, 1) := by decide +kernel
theorem dX0_knownAt_27 : decode cX0_knownAt 27 = .ok (.ireturn, 1) := by decide +kernel
noncomputable def f_X0_knownAt_L2 (a0 : Nat) (l1 : Int32) (μ : Mm) (s2 : Int32) : Option ((Int32) ⊕ (Int32)) :=
  (gf_I 1 8 a0 μ).bind fun x4 => if x4 ≤ s2 then some (.inr s2) else (gf_P 1 0 a0 μ).bind fun x11 => (ga_I x11 s2 μ).bind fun x15 => if l1 < x15 then some (.inr s2) else (some (s2 + (1 : Int32))).bind fun v20 => some (.inl v20)
noncomputable def f_X0_knownAt (a0 : Nat) (l1 : Int32) (μ : Mm) : Option Int32 :=
  if (mm_K μ a0).1 = 1 then (whl (f_X0_knownAt_L2 a0 l1 μ) (0 : Int32)).bind (fun b2 => some b2) else none
abbrev Rn_X0_knownAt (G : Gv) (Q : Option Value → Mm → Prop) (pc : Nat) (lv : List (Nat × Value)) (st : List Value) (μ : Mm) : Prop := Rn G RX0 cX0_knownAt 3 (some .int) "knownAt" (rmd 0 0 0) (Zm G 0 0 Q) 0 0 pc lv st μ
set_option maxRecDepth 100000 in
set_option maxHeartbeats 4000000 in
theorem m_X0_knownAt {G : Gv} (a0 : Nat) (l1 : Int32) (μ : Mm) {r : Int32} (hx : f_X0_knownAt a0 l1 μ = some r) : Mt G yX0_knownAt cX0_knownAt 3 (some .int) 0 0 0 [.ref a0, .int l1] μ (fun v μ' => v = some (.int r) ∧ μ' = μ) := by
  refine Mt.of (by decide) (Nat.le_of_ble_eq_true rfl) ?_
  show Rn_X0_knownAt G (fun v μ' => v = some (.int r) ∧ μ' = μ) 0 [(0, .ref a0), (1, .int l1)] [] μ
  obtain ⟨_, h⟩ := Sat_ifp (show Sat (f_X0_knownAt a0 l1 μ) (fun x => x = r) from ⟨_, hx, rfl⟩)
  refine r_iconst (v := 0) dX0_knownAt_0 (by decide) ?_
  refine r_istore_n (lv' := [(2, .int (0 : Int32)), (0, .ref a0), (1, .int l1)]) dX0_knownAt_1 rfl (by decide) rfl ?_
  refine r_sub (lv' := [(0, .ref a0), (1, .int l1), (2, .int (0 : Int32))]) [1, 2, 0] rfl ?_
  refine whl_K (s0 := ((0 : Int32) : Int32)) (RR := fun (s2 : Int32) => Rn_X0_knownAt G (fun v μ' => v = some (.int r) ∧ μ' = μ) 2 [(0, .ref a0), (1, .int l1), (2, .int s2)] [] μ) ?_ (Sat_bindK h)
  intro s2 K2 hI2 hX2 h
  refine r_iload_n dX0_knownAt_2 2 rfl ?_
  refine r_aload_n dX0_knownAt_3 0 rfl ?_
  obtain ⟨x4, e4, h⟩ := Sat_bind h
  refine r_getI fk_X0_36 rfl e4 dX0_knownAt_4 ?_
  refine r_icmp_ge 26 dX0_knownAt_7 (by decide) (fun c7 => ?_) (fun c7 => ?_)
  · have h := Sat_pos c7 h
    have h := hX2 _ (Sat_some h)
    refine r_iload_n dX0_knownAt_26 2 rfl ?_
    exact r_ireturn rfl (by rw [← Sat_eq h]; exact ⟨rfl, rfl⟩) dX0_knownAt_27
  · have h := Sat_neg c7 h
    refine r_aload_n dX0_knownAt_10 0 rfl ?_
    obtain ⟨x11, e11, h⟩ := Sat_bind h
    refine r_getP fk_X0_11 rfl e11 dX0_knownAt_11 ?_
    refine r_iload_n dX0_knownAt_14 2 rfl ?_
    obtain ⟨x15, e15, h⟩ := Sat_bind h
    refine r_iaload e15 dX0_knownAt_15 ?_
    refine r_iload_n dX0_knownAt_16 1 rfl ?_
    refine r_icmp_gt 26 dX0_knownAt_17 (by decide) (fun c17 => ?_) (fun c17 => ?_)
    · have h := Sat_pos c17 h
      have h := hX2 _ (Sat_some h)
      refine r_iload_n dX0_knownAt_26 2 rfl ?_
      exact r_ireturn rfl (by rw [← Sat_eq h]; exact ⟨rfl, rfl⟩) dX0_knownAt_27
    · have h := Sat_neg c17 h
      obtain ⟨v20, e20, h⟩ := Sat_bind h
      refine r_iinc (j := 2) (v := v20) (lv' := [(2, .int v20), (0, .ref a0), (1, .int l1)]) dX0_knownAt_20 rfl (iinc_v e20 (by decide)) (by decide) rfl ?_
      refine r_goto 2 dX0_knownAt_23 (by decide) ?_
      exact r_sub [1, 2, 0] rfl (hI2 _ (Sat_some h))
theorem dX10_isStep_0 : decode cX10_isStep 0 = .ok (.iload_n 0, 1) := by decide +kernel
theorem dX10_isStep_1 : decode cX10_isStep 1 = .ok (.ifCond .lt 14, 3) := by decide +kernel
theorem dX10_isStep_4 : decode cX10_isStep 4 = .ok (.iload_n 0, 1) := by decide +kernel
theorem dX10_isStep_5 : decode cX10_isStep 5 = .ok (.sipush 999, 3) := by decide +kernel
theorem dX10_isStep_8 : decode cX10_isStep 8 = .ok (.if_icmp .gt 7, 3) := by decide +kernel
theorem dX10_isStep_11 : decode cX10_isStep 11 = .ok (.iconst 1, 1) := by decide +kernel
theorem dX10_isStep_12 : decode cX10_isStep 12 = .ok (.goto 4, 3) := by decide +kernel
theorem dX10_isStep_15 : decode cX10_isStep 15 = .ok (.iconst 0, 1) := by decide +kernel
theorem dX10_isStep_16 : decode cX10_isStep 16 = .ok (.ireturn, 1) := by decide +kernel
noncomputable def f_X10_isStep_J15  (μ : Mm) : Option Int32 :=
  some (0 : Int32)
noncomputable def f_X10_isStep (l0 : Int32) (μ : Mm) : Option Int32 :=
  if l0 < 0 then f_X10_isStep_J15 μ else if (999 : Int32) < l0 then f_X10_isStep_J15 μ else some (1 : Int32)
abbrev Rn_X10_isStep (G : Gv) (Q : Option Value → Mm → Prop) (pc : Nat) (lv : List (Nat × Value)) (st : List Value) (μ : Mm) : Prop := Rn G RX10 cX10_isStep 1 (some .boolean) "isStep" (rmd 0 0 0) (Zm G 0 0 Q) 0 0 pc lv st μ
set_option maxRecDepth 100000 in
set_option maxHeartbeats 4000000 in
theorem m_X10_isStep {G : Gv} (l0 : Int32) (μ : Mm) {r : Int32} (hx : f_X10_isStep l0 μ = some r) : Mt G yX10_isStep cX10_isStep 1 (some .boolean) 0 0 0 [.int l0] μ (fun v μ' => v = some (.int r) ∧ μ' = μ) := by
  refine Mt.of (by decide) (Nat.le_of_ble_eq_true rfl) ?_
  show Rn_X10_isStep G (fun v μ' => v = some (.int r) ∧ μ' = μ) 0 [(0, .int l0)] [] μ
  have h : Sat (f_X10_isStep l0 μ) (fun x => x = r) := ⟨_, hx, rfl⟩
  have J15 : Sat (f_X10_isStep_J15 μ) (fun x => x = r) → Rn_X10_isStep G (fun v μ' => v = some (.int r) ∧ μ' = μ) 15 [] [] μ := by
    intro  h
    refine r_iconst (v := 0) dX10_isStep_15 (by decide) ?_
    exact r_zreturn rfl (by decide) (by rw [← Sat_eq h]; exact ⟨rfl, rfl⟩) dX10_isStep_16
  refine r_iload_n dX10_isStep_0 0 rfl ?_
  refine r_if_lt 15 dX10_isStep_1 (by decide) (fun c1 => ?_) (fun c1 => ?_)
  · have h := Sat_pos c1 h
    exact r_sub [] rfl (J15  h)
  · have h := Sat_neg c1 h
    refine r_iload_n dX10_isStep_4 0 rfl ?_
    refine r_sipush (v := 999) dX10_isStep_5 (by decide) ?_
    refine r_icmp_gt 15 dX10_isStep_8 (by decide) (fun c8 => ?_) (fun c8 => ?_)
    · have h := Sat_pos c8 h
      exact r_sub [] rfl (J15  h)
    · have h := Sat_neg c8 h
      refine r_iconst (v := 1) dX10_isStep_11 (by decide) ?_
      refine r_goto 16 dX10_isStep_12 (by decide) ?_
      exact r_zreturn rfl (by decide) (by rw [← Sat_eq h]; exact ⟨rfl, rfl⟩) dX10_isStep_16
theorem dX0_mayBeTold_0 : decode cX0_mayBeTold 0 = .ok (.iload_n 1, 1) := by decide +kernel
theorem dX0_mayBeTold_1 : decode cX0_mayBeTold 1 = .ok (.aload_n 0, 1) := by decide +kernel
theorem dX0_mayBeTold_2 : decode cX0_mayBeTold 2 = .ok (.getfield 43, 3) := by decide +kernel
theorem dX0_mayBeTold_5 : decode cX0_mayBeTold 5 = .ok (.if_icmp .lt 23, 3) := by decide +kernel
theorem dX0_mayBeTold_8 : decode cX0_mayBeTold 8 = .ok (.iload_n 1, 1) := by decide +kernel
theorem dX0_mayBeTold_9 : decode cX0_mayBeTold 9 = .ok (.invokestatic 46, 3) := by decide +kernel
theorem dX0_mayBeTold_12 : decode cX0_mayBeTold 12 = .ok (.ifCond .eq 16, 3) := by decide +kernel
theorem dX0_mayBeTold_15 : decode cX0_mayBeTold 15 = .ok (.iload_n 2, 1) := by decide +kernel
theorem dX0_mayBeTold_16 : decode cX0_mayBeTold 16 = .ok (.ifCond .eq 8, 3) := by decide +kernel
theorem dX0_mayBeTold_19 : decode cX0_mayBeTold 19 = .ok (.iload_n 2, 1) := by decide +kernel
theorem dX0_mayBeTold_20 : decode cX0_mayBeTold 20 = .ok (.iconst 1, 1) := by decide +kernel
theorem dX0_mayBeTold_21 : decode cX0_mayBeTold 21 = .ok (.if_icmp .ne 7, 3) := by decide +kernel
theorem dX0_mayBeTold_24 : decode cX0_mayBeTold 24 = .ok (.iconst 1, 1) := by decide +kernel
theorem dX0_mayBeTold_25 : decode cX0_mayBeTold 25 = .ok (.goto 4, 3) := by decide +kernel
theorem dX0_mayBeTold_28 : decode cX0_mayBeTold 28 = .ok (.iconst 0, 1) := by decide +kernel
theorem dX0_mayBeTold_29 : decode cX0_mayBeTold 29 = .ok (.ireturn, 1) := by decide +kernel
noncomputable def f_X0_mayBeTold_J28  (μ : Mm) : Option Int32 :=
  some (0 : Int32)
noncomputable def f_X0_mayBeTold_J24  (μ : Mm) : Option Int32 :=
  some (1 : Int32)
noncomputable def f_X0_mayBeTold (a0 : Nat) (l1 : Int32) (l2 : Int32) (μ : Mm) : Option Int32 :=
  if (mm_K μ a0).1 = 1 then (gf_I 1 10 a0 μ).bind fun x2 => if l1 < x2 then f_X0_mayBeTold_J28 μ else (f_X10_isStep l1 μ).bind fun x9 => if x9 = 0 then f_X0_mayBeTold_J28 μ else if l2 = 0 then f_X0_mayBeTold_J24 μ else if l2 = (1 : Int32) then f_X0_mayBeTold_J24 μ else f_X0_mayBeTold_J28 μ else none
abbrev Rn_X0_mayBeTold (G : Gv) (Q : Option Value → Mm → Prop) (pc : Nat) (lv : List (Nat × Value)) (st : List Value) (μ : Mm) : Prop := Rn G RX0 cX0_mayBeTold 3 (some .boolean) "mayBeTold" (rmd 1 0 0) (Zm G 0 0 Q) 0 0 pc lv st μ
set_option maxRecDepth 100000 in
set_option maxHeartbeats 4000000 in
theorem m_X0_mayBeTold {G : Gv} (a0 : Nat) (l1 : Int32) (l2 : Int32) (μ : Mm) {r : Int32} (hx : f_X0_mayBeTold a0 l1 l2 μ = some r) : Mt G yX0_mayBeTold cX0_mayBeTold 3 (some .boolean) 1 0 0 [.ref a0, .int l1, .int l2] μ (fun v μ' => v = some (.int r) ∧ μ' = μ) := by
  refine Mt.of (by decide) (Nat.le_of_ble_eq_true rfl) ?_
  show Rn_X0_mayBeTold G (fun v μ' => v = some (.int r) ∧ μ' = μ) 0 [(0, .ref a0), (1, .int l1), (2, .int l2)] [] μ
  obtain ⟨_, h⟩ := Sat_ifp (show Sat (f_X0_mayBeTold a0 l1 l2 μ) (fun x => x = r) from ⟨_, hx, rfl⟩)
  have J28 : Sat (f_X0_mayBeTold_J28 μ) (fun x => x = r) → Rn_X0_mayBeTold G (fun v μ' => v = some (.int r) ∧ μ' = μ) 28 [] [] μ := by
    intro  h
    refine r_iconst (v := 0) dX0_mayBeTold_28 (by decide) ?_
    exact r_zreturn rfl (by decide) (by rw [← Sat_eq h]; exact ⟨rfl, rfl⟩) dX0_mayBeTold_29
  have J24 : Sat (f_X0_mayBeTold_J24 μ) (fun x => x = r) → Rn_X0_mayBeTold G (fun v μ' => v = some (.int r) ∧ μ' = μ) 24 [] [] μ := by
    intro  h
    refine r_iconst (v := 1) dX0_mayBeTold_24 (by decide) ?_
    refine r_goto 29 dX0_mayBeTold_25 (by decide) ?_
    exact r_zreturn rfl (by decide) (by rw [← Sat_eq h]; exact ⟨rfl, rfl⟩) dX0_mayBeTold_29
  refine r_iload_n dX0_mayBeTold_0 1 rfl ?_
  refine r_aload_n dX0_mayBeTold_1 0 rfl ?_
  obtain ⟨x2, e2, h⟩ := Sat_bind h
  refine r_getI fk_X0_43 rfl e2 dX0_mayBeTold_2 ?_
  refine r_icmp_lt 28 dX0_mayBeTold_5 (by decide) (fun c5 => ?_) (fun c5 => ?_)
  · have h := Sat_pos c5 h
    exact r_sub [] rfl (J28  h)
  · have h := Sat_neg c5 h
    refine r_iload_n dX0_mayBeTold_8 1 rfl ?_
    obtain ⟨x9, e9, h⟩ := Sat_bind h
    refine r_cS [.int l1] [] (m_X10_isStep l1 μ e9) ck_X10_isStep lk_X0_46 st_X10_isStep rfl rfl (Nat.le_of_ble_eq_true rfl) ⟨by decide, by decide⟩ ⟨Nat.zero_le _, Nat.zero_le _⟩ dX0_mayBeTold_9 ?_
    refine r_if_eq 28 dX0_mayBeTold_12 (by decide) (fun c12 => ?_) (fun c12 => ?_)
    · have h := Sat_pos c12 h
      exact r_sub [] rfl (J28  h)
    · have h := Sat_neg c12 h
      refine r_iload_n dX0_mayBeTold_15 2 rfl ?_
      refine r_if_eq 24 dX0_mayBeTold_16 (by decide) (fun c16 => ?_) (fun c16 => ?_)
      · have h := Sat_pos c16 h
        exact r_sub [] rfl (J24  h)
      · have h := Sat_neg c16 h
        refine r_iload_n dX0_mayBeTold_19 2 rfl ?_
        refine r_iconst (v := 1) dX0_mayBeTold_20 (by decide) ?_
        refine r_icmp_ne 28 dX0_mayBeTold_21 (by decide) (fun c21 => ?_) (fun c21 => ?_)
        · have h := Sat_neg c21 h
          exact r_sub [] rfl (J28  h)
        · have h := Sat_pos c21 h
          exact r_sub [] rfl (J24  h)
theorem dX10_isDay_0 : decode cX10_isDay 0 = .ok (.iload_n 0, 1) := by decide +kernel
theorem dX10_isDay_1 : decode cX10_isDay 1 = .ok (.ifCond .lt 13, 3) := by decide +kernel
theorem dX10_isDay_4 : decode cX10_isDay 4 = .ok (.iload_n 0, 1) := by decide +kernel
theorem dX10_isDay_5 : decode cX10_isDay 5 = .ok (.bipush 28, 2) := by decide +kernel
theorem dX10_isDay_7 : decode cX10_isDay 7 = .ok (.if_icmp .ge 7, 3) := by decide +kernel
theorem dX10_isDay_10 : decode cX10_isDay 10 = .ok (.iconst 1, 1) := by decide +kernel
theorem dX10_isDay_11 : decode cX10_isDay 11 = .ok (.goto 4, 3) := by decide +kernel
theorem dX10_isDay_14 : decode cX10_isDay 14 = .ok (.iconst 0, 1) := by decide +kernel
theorem dX10_isDay_15 : decode cX10_isDay 15 = .ok (.ireturn, 1) := by decide +kernel
noncomputable def f_X10_isDay_J14  (μ : Mm) : Option Int32 :=
  some (0 : Int32)
noncomputable def f_X10_isDay (l0 : Int32) (μ : Mm) : Option Int32 :=
  if l0 < 0 then f_X10_isDay_J14 μ else if (28 : Int32) ≤ l0 then f_X10_isDay_J14 μ else some (1 : Int32)
abbrev Rn_X10_isDay (G : Gv) (Q : Option Value → Mm → Prop) (pc : Nat) (lv : List (Nat × Value)) (st : List Value) (μ : Mm) : Prop := Rn G RX10 cX10_isDay 1 (some .boolean) "isDay" (rmd 0 0 0) (Zm G 0 0 Q) 0 0 pc lv st μ
set_option maxRecDepth 100000 in
set_option maxHeartbeats 4000000 in
theorem m_X10_isDay {G : Gv} (l0 : Int32) (μ : Mm) {r : Int32} (hx : f_X10_isDay l0 μ = some r) : Mt G yX10_isDay cX10_isDay 1 (some .boolean) 0 0 0 [.int l0] μ (fun v μ' => v = some (.int r) ∧ μ' = μ) := by
  refine Mt.of (by decide) (Nat.le_of_ble_eq_true rfl) ?_
  show Rn_X10_isDay G (fun v μ' => v = some (.int r) ∧ μ' = μ) 0 [(0, .int l0)] [] μ
  have h : Sat (f_X10_isDay l0 μ) (fun x => x = r) := ⟨_, hx, rfl⟩
  have J14 : Sat (f_X10_isDay_J14 μ) (fun x => x = r) → Rn_X10_isDay G (fun v μ' => v = some (.int r) ∧ μ' = μ) 14 [] [] μ := by
    intro  h
    refine r_iconst (v := 0) dX10_isDay_14 (by decide) ?_
    exact r_zreturn rfl (by decide) (by rw [← Sat_eq h]; exact ⟨rfl, rfl⟩) dX10_isDay_15
  refine r_iload_n dX10_isDay_0 0 rfl ?_
  refine r_if_lt 14 dX10_isDay_1 (by decide) (fun c1 => ?_) (fun c1 => ?_)
  · have h := Sat_pos c1 h
    exact r_sub [] rfl (J14  h)
  · have h := Sat_neg c1 h
    refine r_iload_n dX10_isDay_4 0 rfl ?_
    refine r_bipush (v := 28) dX10_isDay_5 (by decide) ?_
    refine r_icmp_ge 14 dX10_isDay_7 (by decide) (fun c7 => ?_) (fun c7 => ?_)
    · have h := Sat_pos c7 h
      exact r_sub [] rfl (J14  h)
    · have h := Sat_neg c7 h
      refine r_iconst (v := 1) dX10_isDay_10 (by decide) ?_
      refine r_goto 15 dX10_isDay_11 (by decide) ?_
      exact r_zreturn rfl (by decide) (by rw [← Sat_eq h]; exact ⟨rfl, rfl⟩) dX10_isDay_15
theorem dX7_isFact_0 : decode cX7_isFact 0 = .ok (.iload_n 1, 1) := by decide +kernel
theorem dX7_isFact_1 : decode cX7_isFact 1 = .ok (.ifCond .lt 18, 3) := by decide +kernel
theorem dX7_isFact_4 : decode cX7_isFact 4 = .ok (.iload_n 1, 1) := by decide +kernel
theorem dX7_isFact_5 : decode cX7_isFact 5 = .ok (.aload_n 0, 1) := by decide +kernel
theorem dX7_isFact_6 : decode cX7_isFact 6 = .ok (.getfield 27, 3) := by decide +kernel
theorem dX7_isFact_9 : decode cX7_isFact 9 = .ok (.getfield 75, 3) := by decide +kernel
theorem dX7_isFact_12 : decode cX7_isFact 12 = .ok (.if_icmp .ge 7, 3) := by decide +kernel
theorem dX7_isFact_15 : decode cX7_isFact 15 = .ok (.iconst 1, 1) := by decide +kernel
theorem dX7_isFact_16 : decode cX7_isFact 16 = .ok (.goto 4, 3) := by decide +kernel
theorem dX7_isFact_19 : decode cX7_isFact 19 = .ok (.iconst 0, 1) := by decide +kernel
theorem dX7_isFact_20 : decode cX7_isFact 20 = .ok (.ireturn, 1) := by decide +kernel
noncomputable def f_X7_isFact_J19  (μ : Mm) : Option Int32 :=
  some (0 : Int32)
noncomputable def f_X7_isFact (a0 : Nat) (l1 : Int32) (μ : Mm) : Option Int32 :=
  if (mm_K μ a0).1 = 8 then if l1 < 0 then f_X7_isFact_J19 μ else (gf_P 8 3 a0 μ).bind fun x6 => (gf_I 3 1 x6 μ).bind fun x9 => if x9 ≤ l1 then f_X7_isFact_J19 μ else some (1 : Int32) else none
abbrev Rn_X7_isFact (G : Gv) (Q : Option Value → Mm → Prop) (pc : Nat) (lv : List (Nat × Value)) (st : List Value) (μ : Mm) : Prop := Rn G RX7 cX7_isFact 2 (some .boolean) "isFact" (rmd 0 0 0) (Zm G 0 0 Q) 0 0 pc lv st μ
set_option maxRecDepth 100000 in
set_option maxHeartbeats 4000000 in
theorem m_X7_isFact {G : Gv} (a0 : Nat) (l1 : Int32) (μ : Mm) {r : Int32} (hx : f_X7_isFact a0 l1 μ = some r) : Mt G yX7_isFact cX7_isFact 2 (some .boolean) 0 0 0 [.ref a0, .int l1] μ (fun v μ' => v = some (.int r) ∧ μ' = μ) := by
  refine Mt.of (by decide) (Nat.le_of_ble_eq_true rfl) ?_
  show Rn_X7_isFact G (fun v μ' => v = some (.int r) ∧ μ' = μ) 0 [(0, .ref a0), (1, .int l1)] [] μ
  obtain ⟨_, h⟩ := Sat_ifp (show Sat (f_X7_isFact a0 l1 μ) (fun x => x = r) from ⟨_, hx, rfl⟩)
  have J19 : Sat (f_X7_isFact_J19 μ) (fun x => x = r) → Rn_X7_isFact G (fun v μ' => v = some (.int r) ∧ μ' = μ) 19 [] [] μ := by
    intro  h
    refine r_iconst (v := 0) dX7_isFact_19 (by decide) ?_
    exact r_zreturn rfl (by decide) (by rw [← Sat_eq h]; exact ⟨rfl, rfl⟩) dX7_isFact_20
  refine r_iload_n dX7_isFact_0 1 rfl ?_
  refine r_if_lt 19 dX7_isFact_1 (by decide) (fun c1 => ?_) (fun c1 => ?_)
  · have h := Sat_pos c1 h
    exact r_sub [] rfl (J19  h)
  · have h := Sat_neg c1 h
    refine r_iload_n dX7_isFact_4 1 rfl ?_
    refine r_aload_n dX7_isFact_5 0 rfl ?_
    obtain ⟨x6, e6, h⟩ := Sat_bind h
    refine r_getP fk_X7_27 rfl e6 dX7_isFact_6 ?_
    obtain ⟨x9, e9, h⟩ := Sat_bind h
    refine r_getI fk_X7_75 rfl e9 dX7_isFact_9 ?_
    refine r_icmp_ge 19 dX7_isFact_12 (by decide) (fun c12 => ?_) (fun c12 => ?_)
    · have h := Sat_pos c12 h
      exact r_sub [] rfl (J19  h)
    · have h := Sat_neg c12 h
      refine r_iconst (v := 1) dX7_isFact_15 (by decide) ?_
      refine r_goto 20 dX7_isFact_16 (by decide) ?_
      exact r_zreturn rfl (by decide) (by rw [← Sat_eq h]; exact ⟨rfl, rfl⟩) dX7_isFact_20
theorem dX7_isPerson_0 : decode cX7_isPerson 0 = .ok (.iload_n 1, 1) := by decide +kernel
theorem dX7_isPerson_1 : decode cX7_isPerson 1 = .ok (.ifCond .lt 15, 3) := by decide +kernel
theorem dX7_isPerson_4 : decode cX7_isPerson 4 = .ok (.iload_n 1, 1) := by decide +kernel
theorem dX7_isPerson_5 : decode cX7_isPerson 5 = .ok (.aload_n 0, 1) := by decide +kernel
theorem dX7_isPerson_6 : decode cX7_isPerson 6 = .ok (.getfield 50, 3) := by decide +kernel
theorem dX7_isPerson_9 : decode cX7_isPerson 9 = .ok (.if_icmp .ge 7, 3) := by decide +kernel
theorem dX7_isPerson_12 : decode cX7_isPerson 12 = .ok (.iconst 1, 1) := by decide +kernel
theorem dX7_isPerson_13 : decode cX7_isPerson 13 = .ok (.goto 4, 3) := by decide +kernel
theorem dX7_isPerson_16 : decode cX7_isPerson 16 = .ok (.iconst 0, 1) := by decide +kernel
theorem dX7_isPerson_17 : decode cX7_isPerson 17 = .ok (.ireturn, 1) := by decide +kernel
noncomputable def f_X7_isPerson_J16  (μ : Mm) : Option Int32 :=
  some (0 : Int32)
noncomputable def f_X7_isPerson (a0 : Nat) (l1 : Int32) (μ : Mm) : Option Int32 :=
  if (mm_K μ a0).1 = 8 then if l1 < 0 then f_X7_isPerson_J16 μ else (gf_I 8 9 a0 μ).bind fun x6 => if x6 ≤ l1 then f_X7_isPerson_J16 μ else some (1 : Int32) else none
abbrev Rn_X7_isPerson (G : Gv) (Q : Option Value → Mm → Prop) (pc : Nat) (lv : List (Nat × Value)) (st : List Value) (μ : Mm) : Prop := Rn G RX7 cX7_isPerson 2 (some .boolean) "isPerson" (rmd 0 0 0) (Zm G 0 0 Q) 0 0 pc lv st μ
set_option maxRecDepth 100000 in
set_option maxHeartbeats 4000000 in
theorem m_X7_isPerson {G : Gv} (a0 : Nat) (l1 : Int32) (μ : Mm) {r : Int32} (hx : f_X7_isPerson a0 l1 μ = some r) : Mt G yX7_isPerson cX7_isPerson 2 (some .boolean) 0 0 0 [.ref a0, .int l1] μ (fun v μ' => v = some (.int r) ∧ μ' = μ) := by
  refine Mt.of (by decide) (Nat.le_of_ble_eq_true rfl) ?_
  show Rn_X7_isPerson G (fun v μ' => v = some (.int r) ∧ μ' = μ) 0 [(0, .ref a0), (1, .int l1)] [] μ
  obtain ⟨_, h⟩ := Sat_ifp (show Sat (f_X7_isPerson a0 l1 μ) (fun x => x = r) from ⟨_, hx, rfl⟩)
  have J16 : Sat (f_X7_isPerson_J16 μ) (fun x => x = r) → Rn_X7_isPerson G (fun v μ' => v = some (.int r) ∧ μ' = μ) 16 [] [] μ := by
    intro  h
    refine r_iconst (v := 0) dX7_isPerson_16 (by decide) ?_
    exact r_zreturn rfl (by decide) (by rw [← Sat_eq h]; exact ⟨rfl, rfl⟩) dX7_isPerson_17
  refine r_iload_n dX7_isPerson_0 1 rfl ?_
  refine r_if_lt 16 dX7_isPerson_1 (by decide) (fun c1 => ?_) (fun c1 => ?_)
  · have h := Sat_pos c1 h
    exact r_sub [] rfl (J16  h)
  · have h := Sat_neg c1 h
    refine r_iload_n dX7_isPerson_4 1 rfl ?_
    refine r_aload_n dX7_isPerson_5 0 rfl ?_
    obtain ⟨x6, e6, h⟩ := Sat_bind h
    refine r_getI fk_X7_50 rfl e6 dX7_isPerson_6 ?_
    refine r_icmp_ge 16 dX7_isPerson_9 (by decide) (fun c9 => ?_) (fun c9 => ?_)
    · have h := Sat_pos c9 h
      exact r_sub [] rfl (J16  h)
    · have h := Sat_neg c9 h
      refine r_iconst (v := 1) dX7_isPerson_12 (by decide) ?_
      refine r_goto 17 dX7_isPerson_13 (by decide) ?_
      exact r_zreturn rfl (by decide) (by rw [← Sat_eq h]; exact ⟨rfl, rfl⟩) dX7_isPerson_17
theorem dX10_act_0 : decode cX10_act 0 = .ok (.aload_n 0, 1) := by decide +kernel
theorem dX10_act_1 : decode cX10_act 1 = .ok (.getfield 28, 3) := by decide +kernel
theorem dX10_act_4 : decode cX10_act 4 = .ok (.iload_n 1, 1) := by decide +kernel
theorem dX10_act_5 : decode cX10_act 5 = .ok (.iload 5, 2) := by decide +kernel
theorem dX10_act_7 : decode cX10_act 7 = .ok (.invokevirtual 270, 3) := by decide +kernel
theorem dX10_act_10 : decode cX10_act 10 = .ok (.ifCond .eq 10, 3) := by decide +kernel
theorem dX10_act_13 : decode cX10_act 13 = .ok (.iload_n 2, 1) := by decide +kernel
theorem dX10_act_14 : decode cX10_act 14 = .ok (.invokestatic 214, 3) := by decide +kernel
theorem dX10_act_17 : decode cX10_act 17 = .ok (.ifCond .ne 6, 3) := by decide +kernel
theorem dX10_act_20 : decode cX10_act 20 = .ok (.bipush (-2), 2) := by decide +kernel
theorem dX10_act_22 : decode cX10_act 22 = .ok (.ireturn, 1) := by decide +kernel
theorem dX10_act_23 : decode cX10_act 23 = .ok (.aload_n 0, 1) := by decide +kernel
theorem dX10_act_24 : decode cX10_act 24 = .ok (.getfield 63, 3) := by decide +kernel
theorem dX10_act_27 : decode cX10_act 27 = .ok (.iload_n 3, 1) := by decide +kernel
theorem dX10_act_28 : decode cX10_act 28 = .ok (.invokevirtual 178, 3) := by decide +kernel
theorem dX10_act_31 : decode cX10_act 31 = .ok (.ifCond .eq 15, 3) := by decide +kernel
theorem dX10_act_34 : decode cX10_act 34 = .ok (.aload_n 0, 1) := by decide +kernel
theorem dX10_act_35 : decode cX10_act 35 = .ok (.getfield 63, 3) := by decide +kernel
theorem dX10_act_38 : decode cX10_act 38 = .ok (.iload 4, 2) := by decide +kernel
theorem dX10_act_40 : decode cX10_act 40 = .ok (.invokevirtual 188, 3) := by decide +kernel
theorem dX10_act_43 : decode cX10_act 43 = .ok (.ifCond .ne 6, 3) := by decide +kernel
theorem dX10_act_46 : decode cX10_act 46 = .ok (.bipush (-2), 2) := by decide +kernel
theorem dX10_act_48 : decode cX10_act 48 = .ok (.ireturn, 1) := by decide +kernel
theorem dX10_act_49 : decode cX10_act 49 = .ok (.aload_n 0, 1) := by decide +kernel
theorem dX10_act_50 : decode cX10_act 50 = .ok (.getfield 28, 3) := by decide +kernel
theorem dX10_act_53 : decode cX10_act 53 = .ok (.invokevirtual 274, 3) := by decide +kernel
theorem dX10_act_56 : decode cX10_act 56 = .ok (.ifCond .ne 6, 3) := by decide +kernel
theorem dX10_act_59 : decode cX10_act 59 = .ok (.bipush (-3), 2) := by decide +kernel
theorem dX10_act_61 : decode cX10_act 61 = .ok (.ireturn, 1) := by decide +kernel
theorem dX10_act_62 : decode cX10_act 62 = .ok (.aload_n 0, 1) := by decide +kernel
theorem dX10_act_63 : decode cX10_act 63 = .ok (.getfield 93, 3) := by decide +kernel
theorem dX10_act_66 : decode cX10_act 66 = .ok (.iconst 0, 1) := by decide +kernel
theorem dX10_act_67 : decode cX10_act 67 = .ok (.putfield 277, 3) := by decide +kernel
theorem dX10_act_70 : decode cX10_act 70 = .ok (.aload_n 0, 1) := by decide +kernel
theorem dX10_act_71 : decode cX10_act 71 = .ok (.getfield 28, 3) := by decide +kernel
theorem dX10_act_74 : decode cX10_act 74 = .ok (.iload_n 1, 1) := by decide +kernel
theorem dX10_act_75 : decode cX10_act 75 = .ok (.iload_n 2, 1) := by decide +kernel
theorem dX10_act_76 : decode cX10_act 76 = .ok (.iload_n 3, 1) := by decide +kernel
theorem dX10_act_77 : decode cX10_act 77 = .ok (.iload 4, 2) := by decide +kernel
theorem dX10_act_79 : decode cX10_act 79 = .ok (.iload 5, 2) := by decide +kernel
theorem dX10_act_81 : decode cX10_act 81 = .ok (.invokevirtual 280, 3) := by decide +kernel
theorem dX10_act_84 : decode cX10_act 84 = .ok (.ireturn, 1) := by decide +kernel
noncomputable def f_X10_act (a0 : Nat) (l1 : Int32) (l2 : Int32) (l3 : Int32) (l4 : Int32) (l5 : Int32) (μ : Mm) : Option (Int32 × Mm) :=
  if (mm_K μ a0).1 = 11 then (gf_P 11 4 a0 μ).bind fun x1 => (f_X0_mayBeTold x1 l1 l5 μ).bind fun x7 => if x7 = 0 then some ((-2 : Int32), μ) else (f_X10_isDay l2 μ).bind fun x14 => if x14 = 0 then some ((-2 : Int32), μ) else (gf_P 11 13 a0 μ).bind fun x24 => (f_X7_isPerson x24 l3 μ).bind fun x28 => if x28 = 0 then some ((-2 : Int32), μ) else (gf_P 11 13 a0 μ).bind fun x35 => (f_X7_isFact x35 l4 μ).bind fun x40 => if x40 = 0 then some ((-2 : Int32), μ) else (gf_P 11 4 a0 μ).bind fun x50 => (f_X0_hasRoomForAct x50 μ).bind fun x53 => if x53 = 0 then some ((-3 : Int32), μ) else (gf_P 11 5 a0 μ).bind fun x63 => (pf_Z 2 11 x63 (0 : Int32) μ).bind fun μ67 => (gf_P 11 4 a0 μ67).bind fun x71 => (f_X0_addAct x71 l1 l2 l3 l4 l5 μ67).bind fun x81 => some (x81.1, x81.2) else none
abbrev Rn_X10_act (G : Gv) (Q : Option Value → Mm → Prop) (pc : Nat) (lv : List (Nat × Value)) (st : List Value) (μ : Mm) : Prop := Rn G RX10 cX10_act 6 (some .int) "act" (rmd 2 0 0) (Zm G 0 0 Q) 0 0 pc lv st μ
set_option maxRecDepth 100000 in
set_option maxHeartbeats 4000000 in
theorem m_X10_act {G : Gv} (a0 : Nat) (l1 : Int32) (l2 : Int32) (l3 : Int32) (l4 : Int32) (l5 : Int32) (μ : Mm) {r : (Int32 × Mm)} (hx : f_X10_act a0 l1 l2 l3 l4 l5 μ = some r) : Mt G yX10_act cX10_act 6 (some .int) 2 0 0 [.ref a0, .int l1, .int l2, .int l3, .int l4, .int l5] μ (fun v μ' => v = some (.int r.1) ∧ μ' = r.2) := by
  refine Mt.of (by decide) (Nat.le_of_ble_eq_true rfl) ?_
  show Rn_X10_act G (fun v μ' => v = some (.int r.1) ∧ μ' = r.2) 0 [(0, .ref a0), (1, .int l1), (2, .int l2), (3, .int l3), (4, .int l4), (5, .int l5)] [] μ
  obtain ⟨_, h⟩ := Sat_ifp (show Sat (f_X10_act a0 l1 l2 l3 l4 l5 μ) (fun x => x = r) from ⟨_, hx, rfl⟩)
  refine r_aload_n dX10_act_0 0 rfl ?_
  obtain ⟨x1, e1, h⟩ := Sat_bind h
  refine r_getP fk_X10_28 rfl e1 dX10_act_1 ?_
  refine r_iload_n dX10_act_4 1 rfl ?_
  refine r_iload dX10_act_5 5 rfl ?_
  obtain ⟨x7, e7, h⟩ := Sat_bind h
  refine r_cV (t := 1) [.int l1, .int l5] [] (m_X0_mayBeTold x1 l1 l5 μ e7) ck_X0_mayBeTold lk_X10_270 in_X0_mayBeTold se_X0_mayBeTold (kd_of e7) ⟨rfl, by decide, by decide⟩ rfl rfl (Nat.le_of_ble_eq_true rfl) ⟨by decide, by decide⟩ ⟨Nat.zero_le _, Nat.zero_le _⟩ dX10_act_7 ?_
  refine r_if_eq 20 dX10_act_10 (by decide) (fun c10 => ?_) (fun c10 => ?_)
  · have h := Sat_pos c10 h
    refine r_bipush (v := -2) dX10_act_20 (by decide) ?_
    exact r_ireturn rfl (by rw [← Sat_eq h]; exact ⟨rfl, rfl⟩) dX10_act_22
  · have h := Sat_neg c10 h
    refine r_iload_n dX10_act_13 2 rfl ?_
    obtain ⟨x14, e14, h⟩ := Sat_bind h
    refine r_cS [.int l2] [] (m_X10_isDay l2 μ e14) ck_X10_isDay lk_X10_214 st_X10_isDay rfl rfl (Nat.le_of_ble_eq_true rfl) ⟨by decide, by decide⟩ ⟨Nat.zero_le _, Nat.zero_le _⟩ dX10_act_14 ?_
    refine r_if_ne 23 dX10_act_17 (by decide) (fun c17 => ?_) (fun c17 => ?_)
    · have h := Sat_neg c17 h
      refine r_aload_n dX10_act_23 0 rfl ?_
      obtain ⟨x24, e24, h⟩ := Sat_bind h
      refine r_getP fk_X10_63 rfl e24 dX10_act_24 ?_
      refine r_iload_n dX10_act_27 3 rfl ?_
      obtain ⟨x28, e28, h⟩ := Sat_bind h
      refine r_cV (t := 8) [.int l3] [] (m_X7_isPerson x24 l3 μ e28) ck_X7_isPerson lk_X10_178 in_X7_isPerson se_X7_isPerson (kd_of e28) ⟨rfl, by decide, by decide⟩ rfl rfl (Nat.le_of_ble_eq_true rfl) ⟨by decide, by decide⟩ ⟨Nat.zero_le _, Nat.zero_le _⟩ dX10_act_28 ?_
      refine r_if_eq 46 dX10_act_31 (by decide) (fun c31 => ?_) (fun c31 => ?_)
      · have h := Sat_pos c31 h
        refine r_bipush (v := -2) dX10_act_46 (by decide) ?_
        exact r_ireturn rfl (by rw [← Sat_eq h]; exact ⟨rfl, rfl⟩) dX10_act_48
      · have h := Sat_neg c31 h
        refine r_aload_n dX10_act_34 0 rfl ?_
        obtain ⟨x35, e35, h⟩ := Sat_bind h
        refine r_getP fk_X10_63 rfl e35 dX10_act_35 ?_
        refine r_iload dX10_act_38 4 rfl ?_
        obtain ⟨x40, e40, h⟩ := Sat_bind h
        refine r_cV (t := 8) [.int l4] [] (m_X7_isFact x35 l4 μ e40) ck_X7_isFact lk_X10_188 in_X7_isFact se_X7_isFact (kd_of e40) ⟨rfl, by decide, by decide⟩ rfl rfl (Nat.le_of_ble_eq_true rfl) ⟨by decide, by decide⟩ ⟨Nat.zero_le _, Nat.zero_le _⟩ dX10_act_40 ?_
        refine r_if_ne 49 dX10_act_43 (by decide) (fun c43 => ?_) (fun c43 => ?_)
        · have h := Sat_neg c43 h
          refine r_aload_n dX10_act_49 0 rfl ?_
          obtain ⟨x50, e50, h⟩ := Sat_bind h
          refine r_getP fk_X10_28 rfl e50 dX10_act_50 ?_
          obtain ⟨x53, e53, h⟩ := Sat_bind h
          refine r_cV (t := 1) [] [] (m_X0_hasRoomForAct x50 μ e53) ck_X0_hasRoomForAct lk_X10_274 in_X0_hasRoomForAct se_X0_hasRoomForAct (kd_of e53) ⟨rfl, by decide, by decide⟩ rfl rfl (Nat.le_of_ble_eq_true rfl) ⟨by decide, by decide⟩ ⟨Nat.zero_le _, Nat.zero_le _⟩ dX10_act_53 ?_
          refine r_if_ne 62 dX10_act_56 (by decide) (fun c56 => ?_) (fun c56 => ?_)
          · have h := Sat_neg c56 h
            refine r_aload_n dX10_act_62 0 rfl ?_
            obtain ⟨x63, e63, h⟩ := Sat_bind h
            refine r_getP fk_X10_93 rfl e63 dX10_act_63 ?_
            refine r_iconst (v := 0) dX10_act_66 (by decide) ?_
            obtain ⟨μ67, e67, h⟩ := Sat_bind h
            refine r_putZ fk_X10_277 rfl rfl e67 dX10_act_67 ?_
            refine r_aload_n dX10_act_70 0 rfl ?_
            obtain ⟨x71, e71, h⟩ := Sat_bind h
            refine r_getP fk_X10_28 rfl e71 dX10_act_71 ?_
            refine r_iload_n dX10_act_74 1 rfl ?_
            refine r_iload_n dX10_act_75 2 rfl ?_
            refine r_iload_n dX10_act_76 3 rfl ?_
            refine r_iload dX10_act_77 4 rfl ?_
            refine r_iload dX10_act_79 5 rfl ?_
            obtain ⟨x81, e81, h⟩ := Sat_bind h
            refine r_cV (t := 1) [.int l1, .int l2, .int l3, .int l4, .int l5] [] (m_X0_addAct x71 l1 l2 l3 l4 l5 μ67 e81) ck_X0_addAct lk_X10_280 in_X0_addAct se_X0_addAct (kd_of e81) ⟨rfl, by decide, by decide⟩ rfl rfl (Nat.le_of_ble_eq_true rfl) ⟨by decide, by decide⟩ ⟨Nat.zero_le _, Nat.zero_le _⟩ dX10_act_81 ?_
            exact r_ireturn rfl (by rw [← Sat_eq h]; exact ⟨rfl, rfl⟩) dX10_act_84
          · have h := Sat_pos c56 h
            refine r_bipush (v := -3) dX10_act_59 (by decide) ?_
            exact r_ireturn rfl (by rw [← Sat_eq h]; exact ⟨rfl, rfl⟩) dX10_act_61
        · have h := Sat_pos c43 h
          refine r_bipush (v := -2) dX10_act_46 (by decide) ?_
          exact r_ireturn rfl (by rw [← Sat_eq h]; exact ⟨rfl, rfl⟩) dX10_act_48
    · have h := Sat_pos c17 h
      refine r_bipush (v := -2) dX10_act_20 (by decide) ?_
      exact r_ireturn rfl (by rw [← Sat_eq h]; exact ⟨rfl, rfl⟩) dX10_act_22
theorem dX10_areWays_0 : decode cX10_areWays 0 = .ok (.iload_n 0, 1) := by decide +kernel
theorem dX10_areWays_1 : decode cX10_areWays 1 = .ok (.ifCond .lt 13, 3) := by decide +kernel
theorem dX10_areWays_4 : decode cX10_areWays 4 = .ok (.iload_n 0, 1) := by decide +kernel
theorem dX10_areWays_5 : decode cX10_areWays 5 = .ok (.bipush 7, 2) := by decide +kernel
theorem dX10_areWays_7 : decode cX10_areWays 7 = .ok (.if_icmp .gt 7, 3) := by decide +kernel
theorem dX10_areWays_10 : decode cX10_areWays 10 = .ok (.iconst 1, 1) := by decide +kernel
theorem dX10_areWays_11 : decode cX10_areWays 11 = .ok (.goto 4, 3) := by decide +kernel
theorem dX10_areWays_14 : decode cX10_areWays 14 = .ok (.iconst 0, 1) := by decide +kernel
theorem dX10_areWays_15 : decode cX10_areWays 15 = .ok (.ireturn, 1) := by decide +kernel
noncomputable def f_X10_areWays_J14  (μ : Mm) : Option Int32 :=
  some (0 : Int32)
noncomputable def f_X10_areWays (l0 : Int32) (μ : Mm) : Option Int32 :=
  if l0 < 0 then f_X10_areWays_J14 μ else if (7 : Int32) < l0 then f_X10_areWays_J14 μ else some (1 : Int32)
abbrev Rn_X10_areWays (G : Gv) (Q : Option Value → Mm → Prop) (pc : Nat) (lv : List (Nat × Value)) (st : List Value) (μ : Mm) : Prop := Rn G RX10 cX10_areWays 1 (some .boolean) "areWays" (rmd 0 0 0) (Zm G 0 0 Q) 0 0 pc lv st μ
set_option maxRecDepth 100000 in
set_option maxHeartbeats 4000000 in
theorem m_X10_areWays {G : Gv} (l0 : Int32) (μ : Mm) {r : Int32} (hx : f_X10_areWays l0 μ = some r) : Mt G yX10_areWays cX10_areWays 1 (some .boolean) 0 0 0 [.int l0] μ (fun v μ' => v = some (.int r) ∧ μ' = μ) := by
  refine Mt.of (by decide) (Nat.le_of_ble_eq_true rfl) ?_
  show Rn_X10_areWays G (fun v μ' => v = some (.int r) ∧ μ' = μ) 0 [(0, .int l0)] [] μ
  have h : Sat (f_X10_areWays l0 μ) (fun x => x = r) := ⟨_, hx, rfl⟩
  have J14 : Sat (f_X10_areWays_J14 μ) (fun x => x = r) → Rn_X10_areWays G (fun v μ' => v = some (.int r) ∧ μ' = μ) 14 [] [] μ := by
    intro  h
    refine r_iconst (v := 0) dX10_areWays_14 (by decide) ?_
    exact r_zreturn rfl (by decide) (by rw [← Sat_eq h]; exact ⟨rfl, rfl⟩) dX10_areWays_15
  refine r_iload_n dX10_areWays_0 0 rfl ?_
  refine r_if_lt 14 dX10_areWays_1 (by decide) (fun c1 => ?_) (fun c1 => ?_)
  · have h := Sat_pos c1 h
    exact r_sub [] rfl (J14  h)
  · have h := Sat_neg c1 h
    refine r_iload_n dX10_areWays_4 0 rfl ?_
    refine r_bipush (v := 7) dX10_areWays_5 (by decide) ?_
    refine r_icmp_gt 14 dX10_areWays_7 (by decide) (fun c7 => ?_) (fun c7 => ?_)
    · have h := Sat_pos c7 h
      exact r_sub [] rfl (J14  h)
    · have h := Sat_neg c7 h
      refine r_iconst (v := 1) dX10_areWays_10 (by decide) ?_
      refine r_goto 15 dX10_areWays_11 (by decide) ?_
      exact r_zreturn rfl (by decide) (by rw [← Sat_eq h]; exact ⟨rfl, rfl⟩) dX10_areWays_15
theorem dX4_byItself_0 : decode cX4_byItself 0 = .ok (.iload_n 2, 1) := by decide +kernel
theorem dX4_byItself_1 : decode cX4_byItself 1 = .ok (.aload_n 0, 1) := by decide +kernel
theorem dX4_byItself_2 : decode cX4_byItself 2 = .ok (.getfield 89, 3) := by decide +kernel
theorem dX4_byItself_5 : decode cX4_byItself 5 = .ok (.if_icmp .ne 12, 3) := by decide +kernel
theorem dX4_byItself_8 : decode cX4_byItself 8 = .ok (.iload_n 1, 1) := by decide +kernel
theorem dX4_byItself_9 : decode cX4_byItself 9 = .ok (.aload_n 0, 1) := by decide +kernel
theorem dX4_byItself_10 : decode cX4_byItself 10 = .ok (.getfield 92, 3) := by decide +kernel
theorem dX4_byItself_13 : decode cX4_byItself 13 = .ok (.ior, 1) := by decide +kernel
theorem dX4_byItself_14 : decode cX4_byItself 14 = .ok (.goto 4, 3) := by decide +kernel
theorem dX4_byItself_17 : decode cX4_byItself 17 = .ok (.iload_n 1, 1) := by decide +kernel
theorem dX4_byItself_18 : decode cX4_byItself 18 = .ok (.ireturn, 1) := by decide +kernel
noncomputable def f_X4_byItself (a0 : Nat) (l1 : Int32) (l2 : Int32) (μ : Mm) : Option Int32 :=
  if (mm_K μ a0).1 = 5 then (gf_I 5 8 a0 μ).bind fun x2 => if l2 = x2 then (gf_I 5 9 a0 μ).bind fun x10 => some (l1 ||| x10) else some l1 else none
abbrev Rn_X4_byItself (G : Gv) (Q : Option Value → Mm → Prop) (pc : Nat) (lv : List (Nat × Value)) (st : List Value) (μ : Mm) : Prop := Rn G RX4 cX4_byItself 3 (some .int) "byItself" (rmd 0 0 0) (Zm G 0 0 Q) 0 0 pc lv st μ
set_option maxRecDepth 100000 in
set_option maxHeartbeats 4000000 in
theorem m_X4_byItself {G : Gv} (a0 : Nat) (l1 : Int32) (l2 : Int32) (μ : Mm) {r : Int32} (hx : f_X4_byItself a0 l1 l2 μ = some r) : Mt G yX4_byItself cX4_byItself 3 (some .int) 0 0 0 [.ref a0, .int l1, .int l2] μ (fun v μ' => v = some (.int r) ∧ μ' = μ) := by
  refine Mt.of (by decide) (Nat.le_of_ble_eq_true rfl) ?_
  show Rn_X4_byItself G (fun v μ' => v = some (.int r) ∧ μ' = μ) 0 [(0, .ref a0), (1, .int l1), (2, .int l2)] [] μ
  obtain ⟨_, h⟩ := Sat_ifp (show Sat (f_X4_byItself a0 l1 l2 μ) (fun x => x = r) from ⟨_, hx, rfl⟩)
  refine r_iload_n dX4_byItself_0 2 rfl ?_
  refine r_aload_n dX4_byItself_1 0 rfl ?_
  obtain ⟨x2, e2, h⟩ := Sat_bind h
  refine r_getI fk_X4_89 rfl e2 dX4_byItself_2 ?_
  refine r_icmp_ne 17 dX4_byItself_5 (by decide) (fun c5 => ?_) (fun c5 => ?_)
  · have h := Sat_neg c5 h
    refine r_iload_n dX4_byItself_17 1 rfl ?_
    exact r_ireturn rfl (by rw [← Sat_eq h]; exact ⟨rfl, rfl⟩) dX4_byItself_18
  · have h := Sat_pos c5 h
    refine r_iload_n dX4_byItself_8 1 rfl ?_
    refine r_aload_n dX4_byItself_9 0 rfl ?_
    obtain ⟨x10, e10, h⟩ := Sat_bind h
    refine r_getI fk_X4_92 rfl e10 dX4_byItself_10 ?_
    refine r_ior dX4_byItself_13 ?_
    refine r_goto 18 dX4_byItself_14 (by decide) ?_
    exact r_ireturn rfl (by rw [← Sat_eq h]; exact ⟨rfl, rfl⟩) dX4_byItself_18
theorem dX4_byNaps_0 : decode cX4_byNaps 0 = .ok (.aload_n 0, 1) := by decide +kernel
theorem dX4_byNaps_1 : decode cX4_byNaps 1 = .ok (.getfield 105, 3) := by decide +kernel
theorem dX4_byNaps_4 : decode cX4_byNaps 4 = .ok (.ifCond .eq 22, 3) := by decide +kernel
theorem dX4_byNaps_7 : decode cX4_byNaps 7 = .ok (.iload_n 2, 1) := by decide +kernel
theorem dX4_byNaps_8 : decode cX4_byNaps 8 = .ok (.ifCond .lt 18, 3) := by decide +kernel
theorem dX4_byNaps_11 : decode cX4_byNaps 11 = .ok (.iload_n 2, 1) := by decide +kernel
theorem dX4_byNaps_12 : decode cX4_byNaps 12 = .ok (.bipush 28, 2) := by decide +kernel
theorem dX4_byNaps_14 : decode cX4_byNaps 14 = .ok (.if_icmp .ge 12, 3) := by decide +kernel
theorem dX4_byNaps_17 : decode cX4_byNaps 17 = .ok (.aload_n 0, 1) := by decide +kernel
theorem dX4_byNaps_18 : decode cX4_byNaps 18 = .ok (.getfield 15, 3) := by decide +kernel
theorem dX4_byNaps_21 : decode cX4_byNaps 21 = .ok (.iload_n 2, 1) := by decide +kernel
theorem dX4_byNaps_22 : decode cX4_byNaps 22 = .ok (.iaload, 1) := by decide +kernel
theorem dX4_byNaps_23 : decode cX4_byNaps 23 = .ok (.ifCond .ne 5, 3) := by decide +kernel
theorem dX4_byNaps_26 : decode cX4_byNaps 26 = .ok (.iload_n 1, 1) := by decide +kernel
theorem dX4_byNaps_27 : decode cX4_byNaps 27 = .ok (.ireturn, 1) := by decide +kernel
theorem dX4_byNaps_28 : decode cX4_byNaps 28 = .ok (.iload_n 1, 1) := by decide +kernel
theorem dX4_byNaps_29 : decode cX4_byNaps 29 = .ok (.istore_n 3, 1) := by decide +kernel
theorem dX4_byNaps_30 : decode cX4_byNaps 30 = .ok (.aload_n 0, 1) := by decide +kernel
theorem dX4_byNaps_31 : decode cX4_byNaps 31 = .ok (.getfield 9, 3) := by decide +kernel
theorem dX4_byNaps_34 : decode cX4_byNaps 34 = .ok (.iload_n 2, 1) := by decide +kernel
theorem dX4_byNaps_35 : decode cX4_byNaps 35 = .ok (.iaload, 1) := by decide +kernel
theorem dX4_byNaps_36 : decode cX4_byNaps 36 = .ok (.aload_n 0, 1) := by decide +kernel
theorem dX4_byNaps_37 : decode cX4_byNaps 37 = .ok (.getfield 95, 3) := by decide +kernel
theorem dX4_byNaps_40 : decode cX4_byNaps 40 = .ok (.ior, 1) := by decide +kernel
theorem dX4_byNaps_41 : decode cX4_byNaps 41 = .ok (.istore 4, 2) := by decide +kernel
theorem dX4_byNaps_43 : decode cX4_byNaps 43 = .ok (.iconst 0, 1) := by decide +kernel
theorem dX4_byNaps_44 : decode cX4_byNaps 44 = .ok (.istore 5, 2) := by decide +kernel
theorem dX4_byNaps_46 : decode cX4_byNaps 46 = .ok (.iload 5, 2) := by decide +kernel
theorem dX4_byNaps_48 : decode cX4_byNaps 48 = .ok (.aload_n 0, 1) := by decide +kernel
theorem dX4_byNaps_49 : decode cX4_byNaps 49 = .ok (.getfield 27, 3) := by decide +kernel
theorem dX4_byNaps_52 : decode cX4_byNaps 52 = .ok (.arraylength, 1) := by decide +kernel
theorem dX4_byNaps_53 : decode cX4_byNaps 53 = .ok (.if_icmp .ge 95, 3) := by decide +kernel
theorem dX4_byNaps_56 : decode cX4_byNaps 56 = .ok (.aload_n 0, 1) := by decide +kernel
theorem dX4_byNaps_57 : decode cX4_byNaps 57 = .ok (.getfield 27, 3) := by decide +kernel
theorem dX4_byNaps_60 : decode cX4_byNaps 60 = .ok (.iload 5, 2) := by decide +kernel
theorem dX4_byNaps_62 : decode cX4_byNaps 62 = .ok (.iaload, 1) := by decide +kernel
theorem dX4_byNaps_63 : decode cX4_byNaps 63 = .ok (.istore 6, 2) := by decide +kernel
theorem dX4_byNaps_65 : decode cX4_byNaps 65 = .ok (.aload_n 0, 1) := by decide +kernel
theorem dX4_byNaps_66 : decode cX4_byNaps 66 = .ok (.getfield 15, 3) := by decide +kernel
theorem dX4_byNaps_69 : decode cX4_byNaps 69 = .ok (.iload_n 2, 1) := by decide +kernel
theorem dX4_byNaps_70 : decode cX4_byNaps 70 = .ok (.iaload, 1) := by decide +kernel
theorem dX4_byNaps_71 : decode cX4_byNaps 71 = .ok (.iload 5, 2) := by decide +kernel
theorem dX4_byNaps_73 : decode cX4_byNaps 73 = .ok (.ishr, 1) := by decide +kernel
theorem dX4_byNaps_74 : decode cX4_byNaps 74 = .ok (.iconst 1, 1) := by decide +kernel
theorem dX4_byNaps_75 : decode cX4_byNaps 75 = .ok (.iand, 1) := by decide +kernel
theorem dX4_byNaps_76 : decode cX4_byNaps 76 = .ok (.ifCond .eq 7, 3) := by decide +kernel
theorem dX4_byNaps_79 : decode cX4_byNaps 79 = .ok (.iconst 1, 1) := by decide +kernel
theorem dX4_byNaps_80 : decode cX4_byNaps 80 = .ok (.goto 4, 3) := by decide +kernel
theorem dX4_byNaps_83 : decode cX4_byNaps 83 = .ok (.iconst 0, 1) := by decide +kernel
theorem dX4_byNaps_84 : decode cX4_byNaps 84 = .ok (.istore 7, 2) := by decide +kernel
theorem dX4_byNaps_86 : decode cX4_byNaps 86 = .ok (.iload 7, 2) := by decide +kernel
theorem dX4_byNaps_88 : decode cX4_byNaps 88 = .ok (.ifCond .eq 54, 3) := by decide +kernel
theorem dX4_byNaps_91 : decode cX4_byNaps 91 = .ok (.iload 6, 2) := by decide +kernel
theorem dX4_byNaps_93 : decode cX4_byNaps 93 = .ok (.ifCond .lt 49, 3) := by decide +kernel
theorem dX4_byNaps_96 : decode cX4_byNaps 96 = .ok (.iload 6, 2) := by decide +kernel
theorem dX4_byNaps_98 : decode cX4_byNaps 98 = .ok (.aload_n 0, 1) := by decide +kernel
theorem dX4_byNaps_99 : decode cX4_byNaps 99 = .ok (.getfield 21, 3) := by decide +kernel
theorem dX4_byNaps_102 : decode cX4_byNaps 102 = .ok (.arraylength, 1) := by decide +kernel
theorem dX4_byNaps_103 : decode cX4_byNaps 103 = .ok (.if_icmp .ge 39, 3) := by decide +kernel
theorem dX4_byNaps_106 : decode cX4_byNaps 106 = .ok (.aload_n 0, 1) := by decide +kernel
theorem dX4_byNaps_107 : decode cX4_byNaps 107 = .ok (.getfield 21, 3) := by decide +kernel
theorem dX4_byNaps_110 : decode cX4_byNaps 110 = .ok (.iload 6, 2) := by decide +kernel
theorem dX4_byNaps_112 : decode cX4_byNaps 112 = .ok (.iaload, 1) := by decide +kernel
theorem dX4_byNaps_113 : decode cX4_byNaps 113 = .ok (.istore 8, 2) := by decide +kernel
theorem dX4_byNaps_115 : decode cX4_byNaps 115 = .ok (.iload 8, 2) := by decide +kernel
theorem dX4_byNaps_117 : decode cX4_byNaps 117 = .ok (.iconst (-1), 1) := by decide +kernel
theorem dX4_byNaps_118 : decode cX4_byNaps 118 = .ok (.if_icmp .eq 24, 3) := by decide +kernel
theorem dX4_byNaps_121 : decode cX4_byNaps 121 = .ok (.iload_n 3, 1) := by decide +kernel
theorem dX4_byNaps_122 : decode cX4_byNaps 122 = .ok (.iload 4, 2) := by decide +kernel
theorem dX4_byNaps_124 : decode cX4_byNaps 124 = .ok (.iconst (-1), 1) := by decide +kernel
theorem dX4_byNaps_125 : decode cX4_byNaps 125 = .ok (.ixor, 1) := by decide +kernel
theorem dX4_byNaps_126 : decode cX4_byNaps 126 = .ok (.iand, 1) := by decide +kernel
theorem dX4_byNaps_127 : decode cX4_byNaps 127 = .ok (.iload 8, 2) := by decide +kernel
theorem dX4_byNaps_129 : decode cX4_byNaps 129 = .ok (.ishr, 1) := by decide +kernel
theorem dX4_byNaps_130 : decode cX4_byNaps 130 = .ok (.iconst 1, 1) := by decide +kernel
theorem dX4_byNaps_131 : decode cX4_byNaps 131 = .ok (.iand, 1) := by decide +kernel
theorem dX4_byNaps_132 : decode cX4_byNaps 132 = .ok (.ifCond .eq 10, 3) := by decide +kernel
theorem dX4_byNaps_135 : decode cX4_byNaps 135 = .ok (.iload_n 3, 1) := by decide +kernel
theorem dX4_byNaps_136 : decode cX4_byNaps 136 = .ok (.iconst 1, 1) := by decide +kernel
theorem dX4_byNaps_137 : decode cX4_byNaps 137 = .ok (.iload 6, 2) := by decide +kernel
theorem dX4_byNaps_139 : decode cX4_byNaps 139 = .ok (.ishl, 1) := by decide +kernel
theorem dX4_byNaps_140 : decode cX4_byNaps 140 = .ok (.ior, 1) := by decide +kernel
theorem dX4_byNaps_141 : decode cX4_byNaps 141 = .ok (.istore_n 3, 1) := by decide +kernel
theorem dX4_byNaps_142 : decode cX4_byNaps 142 = .ok (.iinc 5 1, 3) := by decide +kernel
theorem dX4_byNaps_145 : decode cX4_byNaps 145 = .ok (.goto (-99), 3) := by decide +kernel
theorem dX4_byNaps_148 : decode cX4_byNaps 148 = .ok (.iload_n 3, 1) := by decide +kernel
theorem dX4_byNaps_149 : decode cX4_byNaps 149 = .ok (.ireturn, 1) := by decide +kernel
noncomputable def f_X4_byNaps_J142 (a0 : Nat) (l2 : Int32) (l3 : Int32) (l4 : Int32) (l5 : Int32) (μ : Mm) : Option ((Int32 × Int32) ⊕ (Int32)) :=
  (some (l5 + (1 : Int32))).bind fun v142 => some (.inl (l3, v142))
noncomputable def f_X4_byNaps_J84 (a0 : Nat) (l2 : Int32) (l3 : Int32) (l4 : Int32) (l5 : Int32) (l6 : Int32) (k0 : Int32) (μ : Mm) : Option ((Int32 × Int32) ⊕ (Int32)) :=
  if k0 = 0 then f_X4_byNaps_J142 a0 l2 l3 l4 l5 μ else if l6 < 0 then f_X4_byNaps_J142 a0 l2 l3 l4 l5 μ else (gf_P 5 3 a0 μ).bind fun x99 => (ga_len x99 μ).bind fun x102 => if x102 ≤ l6 then f_X4_byNaps_J142 a0 l2 l3 l4 l5 μ else (gf_P 5 3 a0 μ).bind fun x107 => (ga_I x107 l6 μ).bind fun x112 => if x112 = (-1 : Int32) then f_X4_byNaps_J142 a0 l2 l3 l4 l5 μ else if (((l3 &&& (l4 ^^^ (-1 : Int32))) >>> (x112 &&& 31)) &&& (1 : Int32)) = 0 then f_X4_byNaps_J142 a0 l2 l3 l4 l5 μ else (some (l3 ||| ((1 : Int32) <<< (l6 &&& 31)))).bind fun v141 => f_X4_byNaps_J142 a0 l2 v141 l4 l5 μ
noncomputable def f_X4_byNaps_L46 (a0 : Nat) (l2 : Int32) (l4 : Int32) (μ : Mm) (s46 : Int32 × Int32) : Option ((Int32 × Int32) ⊕ (Int32)) :=
  (gf_P 5 5 a0 μ).bind fun x49 => (ga_len x49 μ).bind fun x52 => if x52 ≤ s46.2 then some (.inr s46.1) else (gf_P 5 5 a0 μ).bind fun x57 => (ga_I x57 s46.2 μ).bind fun x62 => (gf_P 5 1 a0 μ).bind fun x66 => (ga_I x66 l2 μ).bind fun x70 => if ((x70 >>> (s46.2 &&& 31)) &&& (1 : Int32)) = 0 then f_X4_byNaps_J84 a0 l2 s46.1 l4 s46.2 x62 (0 : Int32) μ else f_X4_byNaps_J84 a0 l2 s46.1 l4 s46.2 x62 (1 : Int32) μ
noncomputable def f_X4_byNaps (a0 : Nat) (l1 : Int32) (l2 : Int32) (μ : Mm) : Option Int32 :=
  if (mm_K μ a0).1 = 5 then (gf_I 5 13 a0 μ).bind fun x1 => if x1 = 0 then some l1 else if l2 < 0 then some l1 else if (28 : Int32) ≤ l2 then some l1 else (gf_P 5 1 a0 μ).bind fun x18 => (ga_I x18 l2 μ).bind fun x22 => if x22 = 0 then some l1 else (gf_P 5 0 a0 μ).bind fun x31 => (ga_I x31 l2 μ).bind fun x35 => (gf_I 5 10 a0 μ).bind fun x37 => (some (x35 ||| x37)).bind fun v41 => (whl (f_X4_byNaps_L46 a0 l2 v41 μ) (l1, (0 : Int32))).bind (fun b46 => some b46) else none
abbrev Rn_X4_byNaps (G : Gv) (Q : Option Value → Mm → Prop) (pc : Nat) (lv : List (Nat × Value)) (st : List Value) (μ : Mm) : Prop := Rn G RX4 cX4_byNaps 9 (some .int) "byNaps" (rmd 0 0 0) (Zm G 0 0 Q) 0 0 pc lv st μ
set_option maxRecDepth 100000 in
set_option maxHeartbeats 4000000 in
theorem m_X4_byNaps {G : Gv} (a0 : Nat) (l1 : Int32) (l2 : Int32) (μ : Mm) {r : Int32} (hx : f_X4_byNaps a0 l1 l2 μ = some r) : Mt G yX4_byNaps cX4_byNaps 9 (some .int) 0 0 0 [.ref a0, .int l1, .int l2] μ (fun v μ' => v = some (.int r) ∧ μ' = μ) := by
  refine Mt.of (by decide) (Nat.le_of_ble_eq_true rfl) ?_
  show Rn_X4_byNaps G (fun v μ' => v = some (.int r) ∧ μ' = μ) 0 [(0, .ref a0), (1, .int l1), (2, .int l2)] [] μ
  obtain ⟨_, h⟩ := Sat_ifp (show Sat (f_X4_byNaps a0 l1 l2 μ) (fun x => x = r) from ⟨_, hx, rfl⟩)
  refine r_aload_n dX4_byNaps_0 0 rfl ?_
  obtain ⟨x1, e1, h⟩ := Sat_bind h
  refine r_getI fk_X4_105 rfl e1 dX4_byNaps_1 ?_
  refine r_if_eq 26 dX4_byNaps_4 (by decide) (fun c4 => ?_) (fun c4 => ?_)
  · have h := Sat_pos c4 h
    refine r_iload_n dX4_byNaps_26 1 rfl ?_
    exact r_ireturn rfl (by rw [← Sat_eq h]; exact ⟨rfl, rfl⟩) dX4_byNaps_27
  · have h := Sat_neg c4 h
    refine r_iload_n dX4_byNaps_7 2 rfl ?_
    refine r_if_lt 26 dX4_byNaps_8 (by decide) (fun c8 => ?_) (fun c8 => ?_)
    · have h := Sat_pos c8 h
      refine r_iload_n dX4_byNaps_26 1 rfl ?_
      exact r_ireturn rfl (by rw [← Sat_eq h]; exact ⟨rfl, rfl⟩) dX4_byNaps_27
    · have h := Sat_neg c8 h
      refine r_iload_n dX4_byNaps_11 2 rfl ?_
      refine r_bipush (v := 28) dX4_byNaps_12 (by decide) ?_
      refine r_icmp_ge 26 dX4_byNaps_14 (by decide) (fun c14 => ?_) (fun c14 => ?_)
      · have h := Sat_pos c14 h
        refine r_iload_n dX4_byNaps_26 1 rfl ?_
        exact r_ireturn rfl (by rw [← Sat_eq h]; exact ⟨rfl, rfl⟩) dX4_byNaps_27
      · have h := Sat_neg c14 h
        refine r_aload_n dX4_byNaps_17 0 rfl ?_
        obtain ⟨x18, e18, h⟩ := Sat_bind h
        refine r_getP fk_X4_15 rfl e18 dX4_byNaps_18 ?_
        refine r_iload_n dX4_byNaps_21 2 rfl ?_
        obtain ⟨x22, e22, h⟩ := Sat_bind h
        refine r_iaload e22 dX4_byNaps_22 ?_
        refine r_if_ne 28 dX4_byNaps_23 (by decide) (fun c23 => ?_) (fun c23 => ?_)
        · have h := Sat_neg c23 h
          refine r_iload_n dX4_byNaps_28 1 rfl ?_
          refine r_istore_n (lv' := [(3, .int l1), (0, .ref a0), (1, .int l1), (2, .int l2)]) dX4_byNaps_29 rfl (by decide) rfl ?_
          refine r_aload_n dX4_byNaps_30 1 rfl ?_
          obtain ⟨x31, e31, h⟩ := Sat_bind h
          refine r_getP fk_X4_9 rfl e31 dX4_byNaps_31 ?_
          refine r_iload_n dX4_byNaps_34 3 rfl ?_
          obtain ⟨x35, e35, h⟩ := Sat_bind h
          refine r_iaload e35 dX4_byNaps_35 ?_
          refine r_aload_n dX4_byNaps_36 1 rfl ?_
          obtain ⟨x37, e37, h⟩ := Sat_bind h
          refine r_getI fk_X4_95 rfl e37 dX4_byNaps_37 ?_
          refine r_ior dX4_byNaps_40 ?_
          obtain ⟨v41, e41, h⟩ := Sat_bind h
          refine r_topi (Option.some.inj e41) ?_
          refine r_istore (lv' := [(4, .int v41), (3, .int l1), (0, .ref a0), (1, .int l1), (2, .int l2)]) dX4_byNaps_41 (by decide) rfl ?_
          refine r_iconst (v := 0) dX4_byNaps_43 (by decide) ?_
          refine r_istore (lv' := [(5, .int (0 : Int32)), (4, .int v41), (3, .int l1), (0, .ref a0), (1, .int l1), (2, .int l2)]) dX4_byNaps_44 (by decide) rfl ?_
          refine r_sub (lv' := [(0, .ref a0), (2, .int l2), (3, .int l1), (4, .int v41), (5, .int (0 : Int32))]) [3, 5, 2, 1, 0] rfl ?_
          refine whl_K (s0 := ((l1, (0 : Int32)) : Int32 × Int32)) (RR := fun (s46 : Int32 × Int32) => Rn_X4_byNaps G (fun v μ' => v = some (.int r) ∧ μ' = μ) 46 [(0, .ref a0), (2, .int l2), (3, .int s46.1), (4, .int v41), (5, .int s46.2)] [] μ) ?_ (Sat_bindK h)
          intro s46 K46 hI46 hX46 h
          have J142 : ∀ (l3_142 : Int32) (l5_142 : Int32), Sat (f_X4_byNaps_J142 a0 l2 l3_142 v41 l5_142 μ) K46 → Rn_X4_byNaps G (fun v μ' => v = some (.int r) ∧ μ' = μ) 142 [(0, .ref a0), (2, .int l2), (3, .int l3_142), (4, .int v41), (5, .int l5_142)] [] μ := by
            intro l3_142 l5_142 h
            obtain ⟨v142, e142, h⟩ := Sat_bind h
            refine r_iinc (j := 4) (v := v142) (lv' := [(5, .int v142), (0, .ref a0), (2, .int l2), (3, .int l3_142), (4, .int v41)]) dX4_byNaps_142 rfl (iinc_v e142 (by decide)) (by decide) rfl ?_
            refine r_goto 46 dX4_byNaps_145 (by decide) ?_
            exact r_sub [1, 2, 3, 4, 0] rfl (hI46 _ (Sat_some h))
          have J84 : ∀ (l3_84 : Int32) (l5_84 : Int32) (l6_84 : Int32) (k0_84 : Int32), Sat (f_X4_byNaps_J84 a0 l2 l3_84 v41 l5_84 l6_84 k0_84 μ) K46 → Rn_X4_byNaps G (fun v μ' => v = some (.int r) ∧ μ' = μ) 84 [(0, .ref a0), (2, .int l2), (3, .int l3_84), (4, .int v41), (5, .int l5_84), (6, .int l6_84)] [.int k0_84] μ := by
            intro l3_84 l5_84 l6_84 k0_84 h
            refine r_istore (lv' := [(7, .int k0_84), (0, .ref a0), (2, .int l2), (3, .int l3_84), (4, .int v41), (5, .int l5_84), (6, .int l6_84)]) dX4_byNaps_84 (by decide) rfl ?_
            refine r_iload dX4_byNaps_86 0 rfl ?_
            refine r_if_eq 142 dX4_byNaps_88 (by decide) (fun c88 => ?_) (fun c88 => ?_)
            · have h := Sat_pos c88 h
              exact r_sub [1, 2, 3, 4, 5] rfl (J142 l3_84 l5_84 h)
            · have h := Sat_neg c88 h
              refine r_iload dX4_byNaps_91 6 rfl ?_
              refine r_if_lt 142 dX4_byNaps_93 (by decide) (fun c93 => ?_) (fun c93 => ?_)
              · have h := Sat_pos c93 h
                exact r_sub [1, 2, 3, 4, 5] rfl (J142 l3_84 l5_84 h)
              · have h := Sat_neg c93 h
                refine r_iload dX4_byNaps_96 6 rfl ?_
                refine r_aload_n dX4_byNaps_98 1 rfl ?_
                obtain ⟨x99, e99, h⟩ := Sat_bind h
                refine r_getP fk_X4_21 rfl e99 dX4_byNaps_99 ?_
                obtain ⟨x102, e102, h⟩ := Sat_bind h
                refine r_len e102 dX4_byNaps_102 ?_
                refine r_icmp_ge 142 dX4_byNaps_103 (by decide) (fun c103 => ?_) (fun c103 => ?_)
                · have h := Sat_pos c103 h
                  exact r_sub [1, 2, 3, 4, 5] rfl (J142 l3_84 l5_84 h)
                · have h := Sat_neg c103 h
                  refine r_aload_n dX4_byNaps_106 1 rfl ?_
                  obtain ⟨x107, e107, h⟩ := Sat_bind h
                  refine r_getP fk_X4_21 rfl e107 dX4_byNaps_107 ?_
                  refine r_iload dX4_byNaps_110 6 rfl ?_
                  obtain ⟨x112, e112, h⟩ := Sat_bind h
                  refine r_iaload e112 dX4_byNaps_112 ?_
                  refine r_istore (lv' := [(8, .int x112), (7, .int k0_84), (0, .ref a0), (2, .int l2), (3, .int l3_84), (4, .int v41), (5, .int l5_84), (6, .int l6_84)]) dX4_byNaps_113 (by decide) rfl ?_
                  refine r_iload dX4_byNaps_115 0 rfl ?_
                  refine r_iconst (v := -1) dX4_byNaps_117 (by decide) ?_
                  refine r_icmp_eq 142 dX4_byNaps_118 (by decide) (fun c118 => ?_) (fun c118 => ?_)
                  · have h := Sat_pos c118 h
                    exact r_sub [2, 3, 4, 5, 6] rfl (J142 l3_84 l5_84 h)
                  · have h := Sat_neg c118 h
                    refine r_iload_n dX4_byNaps_121 4 rfl ?_
                    refine r_iload dX4_byNaps_122 5 rfl ?_
                    refine r_iconst (v := -1) dX4_byNaps_124 (by decide) ?_
                    refine r_ixor dX4_byNaps_125 ?_
                    refine r_iand dX4_byNaps_126 ?_
                    refine r_iload dX4_byNaps_127 0 rfl ?_
                    refine r_ishr dX4_byNaps_129 ?_
                    refine r_iconst (v := 1) dX4_byNaps_130 (by decide) ?_
                    refine r_iand dX4_byNaps_131 ?_
                    refine r_if_eq 142 dX4_byNaps_132 (by decide) (fun c132 => ?_) (fun c132 => ?_)
                    · have h := Sat_pos c132 h
                      exact r_sub [2, 3, 4, 5, 6] rfl (J142 l3_84 l5_84 h)
                    · have h := Sat_neg c132 h
                      refine r_iload_n dX4_byNaps_135 4 rfl ?_
                      refine r_iconst (v := 1) dX4_byNaps_136 (by decide) ?_
                      refine r_iload dX4_byNaps_137 7 rfl ?_
                      refine r_ishl dX4_byNaps_139 ?_
                      refine r_ior dX4_byNaps_140 ?_
                      obtain ⟨v141, e141, h⟩ := Sat_bind h
                      refine r_topi (Option.some.inj e141) ?_
                      refine r_istore_n (lv' := [(3, .int v141), (8, .int x112), (7, .int k0_84), (0, .ref a0), (2, .int l2), (4, .int v41), (5, .int l5_84), (6, .int l6_84)]) dX4_byNaps_141 rfl (by decide) rfl ?_
                      exact r_sub [3, 4, 0, 5, 6] rfl (J142 v141 l5_84 h)
          refine r_iload dX4_byNaps_46 4 rfl ?_
          refine r_aload_n dX4_byNaps_48 0 rfl ?_
          obtain ⟨x49, e49, h⟩ := Sat_bind h
          refine r_getP fk_X4_27 rfl e49 dX4_byNaps_49 ?_
          obtain ⟨x52, e52, h⟩ := Sat_bind h
          refine r_len e52 dX4_byNaps_52 ?_
          refine r_icmp_ge 148 dX4_byNaps_53 (by decide) (fun c53 => ?_) (fun c53 => ?_)
          · have h := Sat_pos c53 h
            have h := hX46 _ (Sat_some h)
            refine r_iload_n dX4_byNaps_148 2 rfl ?_
            exact r_ireturn rfl (by rw [← Sat_eq h]; exact ⟨rfl, rfl⟩) dX4_byNaps_149
          · have h := Sat_neg c53 h
            refine r_aload_n dX4_byNaps_56 0 rfl ?_
            obtain ⟨x57, e57, h⟩ := Sat_bind h
            refine r_getP fk_X4_27 rfl e57 dX4_byNaps_57 ?_
            refine r_iload dX4_byNaps_60 4 rfl ?_
            obtain ⟨x62, e62, h⟩ := Sat_bind h
            refine r_iaload e62 dX4_byNaps_62 ?_
            refine r_istore (lv' := [(6, .int x62), (0, .ref a0), (2, .int l2), (3, .int s46.1), (4, .int v41), (5, .int s46.2)]) dX4_byNaps_63 (by decide) rfl ?_
            refine r_aload_n dX4_byNaps_65 1 rfl ?_
            obtain ⟨x66, e66, h⟩ := Sat_bind h
            refine r_getP fk_X4_15 rfl e66 dX4_byNaps_66 ?_
            refine r_iload_n dX4_byNaps_69 2 rfl ?_
            obtain ⟨x70, e70, h⟩ := Sat_bind h
            refine r_iaload e70 dX4_byNaps_70 ?_
            refine r_iload dX4_byNaps_71 5 rfl ?_
            refine r_ishr dX4_byNaps_73 ?_
            refine r_iconst (v := 1) dX4_byNaps_74 (by decide) ?_
            refine r_iand dX4_byNaps_75 ?_
            refine r_if_eq 83 dX4_byNaps_76 (by decide) (fun c76 => ?_) (fun c76 => ?_)
            · have h := Sat_pos c76 h
              refine r_iconst (v := 0) dX4_byNaps_83 (by decide) ?_
              exact r_sub [1, 2, 3, 4, 5, 0] rfl (J84 s46.1 s46.2 x62 (0 : Int32) h)
            · have h := Sat_neg c76 h
              refine r_iconst (v := 1) dX4_byNaps_79 (by decide) ?_
              refine r_goto 84 dX4_byNaps_80 (by decide) ?_
              exact r_sub [1, 2, 3, 4, 5, 0] rfl (J84 s46.1 s46.2 x62 (1 : Int32) h)
        · have h := Sat_pos c23 h
          refine r_iload_n dX4_byNaps_26 1 rfl ?_
          exact r_ireturn rfl (by rw [← Sat_eq h]; exact ⟨rfl, rfl⟩) dX4_byNaps_27
theorem dX4_byTalks_0 : decode cX4_byTalks 0 = .ok (.aload_n 0, 1) := by decide +kernel
theorem dX4_byTalks_1 : decode cX4_byTalks 1 = .ok (.getfield 102, 3) := by decide +kernel
theorem dX4_byTalks_4 : decode cX4_byTalks 4 = .ok (.ifCond .eq 22, 3) := by decide +kernel
theorem dX4_byTalks_7 : decode cX4_byTalks 7 = .ok (.iload_n 2, 1) := by decide +kernel
theorem dX4_byTalks_8 : decode cX4_byTalks 8 = .ok (.ifCond .lt 18, 3) := by decide +kernel
theorem dX4_byTalks_11 : decode cX4_byTalks 11 = .ok (.iload_n 2, 1) := by decide +kernel
theorem dX4_byTalks_12 : decode cX4_byTalks 12 = .ok (.bipush 28, 2) := by decide +kernel
theorem dX4_byTalks_14 : decode cX4_byTalks 14 = .ok (.if_icmp .ge 12, 3) := by decide +kernel
theorem dX4_byTalks_17 : decode cX4_byTalks 17 = .ok (.aload_n 0, 1) := by decide +kernel
theorem dX4_byTalks_18 : decode cX4_byTalks 18 = .ok (.getfield 18, 3) := by decide +kernel
theorem dX4_byTalks_21 : decode cX4_byTalks 21 = .ok (.iload_n 2, 1) := by decide +kernel
theorem dX4_byTalks_22 : decode cX4_byTalks 22 = .ok (.iaload, 1) := by decide +kernel
theorem dX4_byTalks_23 : decode cX4_byTalks 23 = .ok (.ifCond .ne 5, 3) := by decide +kernel
theorem dX4_byTalks_26 : decode cX4_byTalks 26 = .ok (.iload_n 1, 1) := by decide +kernel
theorem dX4_byTalks_27 : decode cX4_byTalks 27 = .ok (.ireturn, 1) := by decide +kernel
theorem dX4_byTalks_28 : decode cX4_byTalks 28 = .ok (.iload_n 1, 1) := by decide +kernel
theorem dX4_byTalks_29 : decode cX4_byTalks 29 = .ok (.istore 5, 2) := by decide +kernel
theorem dX4_byTalks_31 : decode cX4_byTalks 31 = .ok (.iload_n 3, 1) := by decide +kernel
theorem dX4_byTalks_32 : decode cX4_byTalks 32 = .ok (.istore 6, 2) := by decide +kernel
theorem dX4_byTalks_34 : decode cX4_byTalks 34 = .ok (.iload 6, 2) := by decide +kernel
theorem dX4_byTalks_36 : decode cX4_byTalks 36 = .ok (.ifCond .lt 77, 3) := by decide +kernel
theorem dX4_byTalks_39 : decode cX4_byTalks 39 = .ok (.iload 6, 2) := by decide +kernel
theorem dX4_byTalks_41 : decode cX4_byTalks 41 = .ok (.iload 4, 2) := by decide +kernel
theorem dX4_byTalks_43 : decode cX4_byTalks 43 = .ok (.if_icmp .ge 70, 3) := by decide +kernel
theorem dX4_byTalks_46 : decode cX4_byTalks 46 = .ok (.iload 6, 2) := by decide +kernel
theorem dX4_byTalks_48 : decode cX4_byTalks 48 = .ok (.aload_n 0, 1) := by decide +kernel
theorem dX4_byTalks_49 : decode cX4_byTalks 49 = .ok (.getfield 30, 3) := by decide +kernel
theorem dX4_byTalks_52 : decode cX4_byTalks 52 = .ok (.arraylength, 1) := by decide +kernel
theorem dX4_byTalks_53 : decode cX4_byTalks 53 = .ok (.if_icmp .ge 60, 3) := by decide +kernel
theorem dX4_byTalks_56 : decode cX4_byTalks 56 = .ok (.aload_n 0, 1) := by decide +kernel
theorem dX4_byTalks_57 : decode cX4_byTalks 57 = .ok (.getfield 18, 3) := by decide +kernel
theorem dX4_byTalks_60 : decode cX4_byTalks 60 = .ok (.iload_n 2, 1) := by decide +kernel
theorem dX4_byTalks_61 : decode cX4_byTalks 61 = .ok (.iaload, 1) := by decide +kernel
theorem dX4_byTalks_62 : decode cX4_byTalks 62 = .ok (.iload 6, 2) := by decide +kernel
theorem dX4_byTalks_64 : decode cX4_byTalks 64 = .ok (.ishr, 1) := by decide +kernel
theorem dX4_byTalks_65 : decode cX4_byTalks 65 = .ok (.iconst 1, 1) := by decide +kernel
theorem dX4_byTalks_66 : decode cX4_byTalks 66 = .ok (.iand, 1) := by decide +kernel
theorem dX4_byTalks_67 : decode cX4_byTalks 67 = .ok (.ifCond .eq 7, 3) := by decide +kernel
theorem dX4_byTalks_70 : decode cX4_byTalks 70 = .ok (.iconst 1, 1) := by decide +kernel
theorem dX4_byTalks_71 : decode cX4_byTalks 71 = .ok (.goto 4, 3) := by decide +kernel
theorem dX4_byTalks_74 : decode cX4_byTalks 74 = .ok (.iconst 0, 1) := by decide +kernel
theorem dX4_byTalks_75 : decode cX4_byTalks 75 = .ok (.istore 7, 2) := by decide +kernel
theorem dX4_byTalks_77 : decode cX4_byTalks 77 = .ok (.iload 7, 2) := by decide +kernel
theorem dX4_byTalks_79 : decode cX4_byTalks 79 = .ok (.ifCond .eq 28, 3) := by decide +kernel
theorem dX4_byTalks_82 : decode cX4_byTalks 82 = .ok (.iload 5, 2) := by decide +kernel
theorem dX4_byTalks_84 : decode cX4_byTalks 84 = .ok (.aload_n 0, 1) := by decide +kernel
theorem dX4_byTalks_85 : decode cX4_byTalks 85 = .ok (.getfield 30, 3) := by decide +kernel
theorem dX4_byTalks_88 : decode cX4_byTalks 88 = .ok (.iload 6, 2) := by decide +kernel
theorem dX4_byTalks_90 : decode cX4_byTalks 90 = .ok (.iaload, 1) := by decide +kernel
theorem dX4_byTalks_91 : decode cX4_byTalks 91 = .ok (.iand, 1) := by decide +kernel
theorem dX4_byTalks_92 : decode cX4_byTalks 92 = .ok (.ifCond .eq 15, 3) := by decide +kernel
theorem dX4_byTalks_95 : decode cX4_byTalks 95 = .ok (.iload 5, 2) := by decide +kernel
theorem dX4_byTalks_97 : decode cX4_byTalks 97 = .ok (.aload_n 0, 1) := by decide +kernel
theorem dX4_byTalks_98 : decode cX4_byTalks 98 = .ok (.getfield 30, 3) := by decide +kernel
theorem dX4_byTalks_101 : decode cX4_byTalks 101 = .ok (.iload 6, 2) := by decide +kernel
theorem dX4_byTalks_103 : decode cX4_byTalks 103 = .ok (.iaload, 1) := by decide +kernel
theorem dX4_byTalks_104 : decode cX4_byTalks 104 = .ok (.ior, 1) := by decide +kernel
theorem dX4_byTalks_105 : decode cX4_byTalks 105 = .ok (.istore 5, 2) := by decide +kernel
theorem dX4_byTalks_107 : decode cX4_byTalks 107 = .ok (.iinc 6 1, 3) := by decide +kernel
theorem dX4_byTalks_110 : decode cX4_byTalks 110 = .ok (.goto (-76), 3) := by decide +kernel
theorem dX4_byTalks_113 : decode cX4_byTalks 113 = .ok (.iload 5, 2) := by decide +kernel
theorem dX4_byTalks_115 : decode cX4_byTalks 115 = .ok (.ireturn, 1) := by decide +kernel
noncomputable def f_X4_byTalks_J107 (a0 : Nat) (l2 : Int32) (l4 : Int32) (l5 : Int32) (l6 : Int32) (μ : Mm) : Option ((Int32 × Int32) ⊕ (Int32)) :=
  (some (l6 + (1 : Int32))).bind fun v107 => some (.inl (l5, v107))
noncomputable def f_X4_byTalks_J75 (a0 : Nat) (l2 : Int32) (l4 : Int32) (l5 : Int32) (l6 : Int32) (k0 : Int32) (μ : Mm) : Option ((Int32 × Int32) ⊕ (Int32)) :=
  if k0 = 0 then f_X4_byTalks_J107 a0 l2 l4 l5 l6 μ else (gf_P 5 6 a0 μ).bind fun x85 => (ga_I x85 l6 μ).bind fun x90 => if (l5 &&& x90) = 0 then f_X4_byTalks_J107 a0 l2 l4 l5 l6 μ else (gf_P 5 6 a0 μ).bind fun x98 => (ga_I x98 l6 μ).bind fun x103 => (some (l5 ||| x103)).bind fun v105 => f_X4_byTalks_J107 a0 l2 l4 v105 l6 μ
noncomputable def f_X4_byTalks_L34 (a0 : Nat) (l2 : Int32) (l4 : Int32) (μ : Mm) (s34 : Int32 × Int32) : Option ((Int32 × Int32) ⊕ (Int32)) :=
  if s34.2 < 0 then some (.inr s34.1) else if l4 ≤ s34.2 then some (.inr s34.1) else (gf_P 5 6 a0 μ).bind fun x49 => (ga_len x49 μ).bind fun x52 => if x52 ≤ s34.2 then some (.inr s34.1) else (gf_P 5 2 a0 μ).bind fun x57 => (ga_I x57 l2 μ).bind fun x61 => if ((x61 >>> (s34.2 &&& 31)) &&& (1 : Int32)) = 0 then f_X4_byTalks_J75 a0 l2 l4 s34.1 s34.2 (0 : Int32) μ else f_X4_byTalks_J75 a0 l2 l4 s34.1 s34.2 (1 : Int32) μ
noncomputable def f_X4_byTalks (a0 : Nat) (l1 : Int32) (l2 : Int32) (l3 : Int32) (l4 : Int32) (μ : Mm) : Option Int32 :=
  if (mm_K μ a0).1 = 5 then (gf_I 5 12 a0 μ).bind fun x1 => if x1 = 0 then some l1 else if l2 < 0 then some l1 else if (28 : Int32) ≤ l2 then some l1 else (gf_P 5 2 a0 μ).bind fun x18 => (ga_I x18 l2 μ).bind fun x22 => if x22 = 0 then some l1 else (whl (f_X4_byTalks_L34 a0 l2 l4 μ) (l1, l3)).bind (fun b34 => some b34) else none
abbrev Rn_X4_byTalks (G : Gv) (Q : Option Value → Mm → Prop) (pc : Nat) (lv : List (Nat × Value)) (st : List Value) (μ : Mm) : Prop := Rn G RX4 cX4_byTalks 8 (some .int) "byTalks" (rmd 0 0 0) (Zm G 0 0 Q) 0 0 pc lv st μ
set_option maxRecDepth 100000 in
set_option maxHeartbeats 4000000 in
theorem m_X4_byTalks {G : Gv} (a0 : Nat) (l1 : Int32) (l2 : Int32) (l3 : Int32) (l4 : Int32) (μ : Mm) {r : Int32} (hx : f_X4_byTalks a0 l1 l2 l3 l4 μ = some r) : Mt G yX4_byTalks cX4_byTalks 8 (some .int) 0 0 0 [.ref a0, .int l1, .int l2, .int l3, .int l4] μ (fun v μ' => v = some (.int r) ∧ μ' = μ) := by
  refine Mt.of (by decide) (Nat.le_of_ble_eq_true rfl) ?_
  show Rn_X4_byTalks G (fun v μ' => v = some (.int r) ∧ μ' = μ) 0 [(0, .ref a0), (1, .int l1), (2, .int l2), (3, .int l3), (4, .int l4)] [] μ
  obtain ⟨_, h⟩ := Sat_ifp (show Sat (f_X4_byTalks a0 l1 l2 l3 l4 μ) (fun x => x = r) from ⟨_, hx, rfl⟩)
  refine r_aload_n dX4_byTalks_0 0 rfl ?_
  obtain ⟨x1, e1, h⟩ := Sat_bind h
  refine r_getI fk_X4_102 rfl e1 dX4_byTalks_1 ?_
  refine r_if_eq 26 dX4_byTalks_4 (by decide) (fun c4 => ?_) (fun c4 => ?_)
  · have h := Sat_pos c4 h
    refine r_iload_n dX4_byTalks_26 1 rfl ?_
    exact r_ireturn rfl (by rw [← Sat_eq h]; exact ⟨rfl, rfl⟩) dX4_byTalks_27
  · have h := Sat_neg c4 h
    refine r_iload_n dX4_byTalks_7 2 rfl ?_
    refine r_if_lt 26 dX4_byTalks_8 (by decide) (fun c8 => ?_) (fun c8 => ?_)
    · have h := Sat_pos c8 h
      refine r_iload_n dX4_byTalks_26 1 rfl ?_
      exact r_ireturn rfl (by rw [← Sat_eq h]; exact ⟨rfl, rfl⟩) dX4_byTalks_27
    · have h := Sat_neg c8 h
      refine r_iload_n dX4_byTalks_11 2 rfl ?_
      refine r_bipush (v := 28) dX4_byTalks_12 (by decide) ?_
      refine r_icmp_ge 26 dX4_byTalks_14 (by decide) (fun c14 => ?_) (fun c14 => ?_)
      · have h := Sat_pos c14 h
        refine r_iload_n dX4_byTalks_26 1 rfl ?_
        exact r_ireturn rfl (by rw [← Sat_eq h]; exact ⟨rfl, rfl⟩) dX4_byTalks_27
      · have h := Sat_neg c14 h
        refine r_aload_n dX4_byTalks_17 0 rfl ?_
        obtain ⟨x18, e18, h⟩ := Sat_bind h
        refine r_getP fk_X4_18 rfl e18 dX4_byTalks_18 ?_
        refine r_iload_n dX4_byTalks_21 2 rfl ?_
        obtain ⟨x22, e22, h⟩ := Sat_bind h
        refine r_iaload e22 dX4_byTalks_22 ?_
        refine r_if_ne 28 dX4_byTalks_23 (by decide) (fun c23 => ?_) (fun c23 => ?_)
        · have h := Sat_neg c23 h
          refine r_iload_n dX4_byTalks_28 1 rfl ?_
          refine r_istore (lv' := [(5, .int l1), (0, .ref a0), (1, .int l1), (2, .int l2), (3, .int l3), (4, .int l4)]) dX4_byTalks_29 (by decide) rfl ?_
          refine r_iload_n dX4_byTalks_31 4 rfl ?_
          refine r_istore (lv' := [(6, .int l3), (5, .int l1), (0, .ref a0), (1, .int l1), (2, .int l2), (3, .int l3), (4, .int l4)]) dX4_byTalks_32 (by decide) rfl ?_
          refine r_sub (lv' := [(0, .ref a0), (2, .int l2), (4, .int l4), (5, .int l1), (6, .int l3)]) [2, 4, 6, 1, 0] rfl ?_
          refine whl_K (s0 := ((l1, l3) : Int32 × Int32)) (RR := fun (s34 : Int32 × Int32) => Rn_X4_byTalks G (fun v μ' => v = some (.int r) ∧ μ' = μ) 34 [(0, .ref a0), (2, .int l2), (4, .int l4), (5, .int s34.1), (6, .int s34.2)] [] μ) ?_ (Sat_bindK h)
          intro s34 K34 hI34 hX34 h
          have J107 : ∀ (l5_107 : Int32) (l6_107 : Int32), Sat (f_X4_byTalks_J107 a0 l2 l4 l5_107 l6_107 μ) K34 → Rn_X4_byTalks G (fun v μ' => v = some (.int r) ∧ μ' = μ) 107 [(0, .ref a0), (2, .int l2), (4, .int l4), (5, .int l5_107), (6, .int l6_107)] [] μ := by
            intro l5_107 l6_107 h
            obtain ⟨v107, e107, h⟩ := Sat_bind h
            refine r_iinc (j := 4) (v := v107) (lv' := [(6, .int v107), (0, .ref a0), (2, .int l2), (4, .int l4), (5, .int l5_107)]) dX4_byTalks_107 rfl (iinc_v e107 (by decide)) (by decide) rfl ?_
            refine r_goto 34 dX4_byTalks_110 (by decide) ?_
            exact r_sub [1, 2, 3, 4, 0] rfl (hI34 _ (Sat_some h))
          have J75 : ∀ (l5_75 : Int32) (l6_75 : Int32) (k0_75 : Int32), Sat (f_X4_byTalks_J75 a0 l2 l4 l5_75 l6_75 k0_75 μ) K34 → Rn_X4_byTalks G (fun v μ' => v = some (.int r) ∧ μ' = μ) 75 [(0, .ref a0), (2, .int l2), (4, .int l4), (5, .int l5_75), (6, .int l6_75)] [.int k0_75] μ := by
            intro l5_75 l6_75 k0_75 h
            refine r_istore (lv' := [(7, .int k0_75), (0, .ref a0), (2, .int l2), (4, .int l4), (5, .int l5_75), (6, .int l6_75)]) dX4_byTalks_75 (by decide) rfl ?_
            refine r_iload dX4_byTalks_77 0 rfl ?_
            refine r_if_eq 107 dX4_byTalks_79 (by decide) (fun c79 => ?_) (fun c79 => ?_)
            · have h := Sat_pos c79 h
              exact r_sub [1, 2, 3, 4, 5] rfl (J107 l5_75 l6_75 h)
            · have h := Sat_neg c79 h
              refine r_iload dX4_byTalks_82 4 rfl ?_
              refine r_aload_n dX4_byTalks_84 1 rfl ?_
              obtain ⟨x85, e85, h⟩ := Sat_bind h
              refine r_getP fk_X4_30 rfl e85 dX4_byTalks_85 ?_
              refine r_iload dX4_byTalks_88 5 rfl ?_
              obtain ⟨x90, e90, h⟩ := Sat_bind h
              refine r_iaload e90 dX4_byTalks_90 ?_
              refine r_iand dX4_byTalks_91 ?_
              refine r_if_eq 107 dX4_byTalks_92 (by decide) (fun c92 => ?_) (fun c92 => ?_)
              · have h := Sat_pos c92 h
                exact r_sub [1, 2, 3, 4, 5] rfl (J107 l5_75 l6_75 h)
              · have h := Sat_neg c92 h
                refine r_iload dX4_byTalks_95 4 rfl ?_
                refine r_aload_n dX4_byTalks_97 1 rfl ?_
                obtain ⟨x98, e98, h⟩ := Sat_bind h
                refine r_getP fk_X4_30 rfl e98 dX4_byTalks_98 ?_
                refine r_iload dX4_byTalks_101 5 rfl ?_
                obtain ⟨x103, e103, h⟩ := Sat_bind h
                refine r_iaload e103 dX4_byTalks_103 ?_
                refine r_ior dX4_byTalks_104 ?_
                obtain ⟨v105, e105, h⟩ := Sat_bind h
                refine r_topi (Option.some.inj e105) ?_
                refine r_istore (lv' := [(5, .int v105), (7, .int k0_75), (0, .ref a0), (2, .int l2), (4, .int l4), (6, .int l6_75)]) dX4_byTalks_105 (by decide) rfl ?_
                exact r_sub [2, 3, 4, 0, 5] rfl (J107 v105 l6_75 h)
          refine r_iload dX4_byTalks_34 4 rfl ?_
          refine r_if_lt 113 dX4_byTalks_36 (by decide) (fun c36 => ?_) (fun c36 => ?_)
          · have h := Sat_pos c36 h
            have h := hX34 _ (Sat_some h)
            refine r_iload dX4_byTalks_113 3 rfl ?_
            exact r_ireturn rfl (by rw [← Sat_eq h]; exact ⟨rfl, rfl⟩) dX4_byTalks_115
          · have h := Sat_neg c36 h
            refine r_iload dX4_byTalks_39 4 rfl ?_
            refine r_iload dX4_byTalks_41 2 rfl ?_
            refine r_icmp_ge 113 dX4_byTalks_43 (by decide) (fun c43 => ?_) (fun c43 => ?_)
            · have h := Sat_pos c43 h
              have h := hX34 _ (Sat_some h)
              refine r_iload dX4_byTalks_113 3 rfl ?_
              exact r_ireturn rfl (by rw [← Sat_eq h]; exact ⟨rfl, rfl⟩) dX4_byTalks_115
            · have h := Sat_neg c43 h
              refine r_iload dX4_byTalks_46 4 rfl ?_
              refine r_aload_n dX4_byTalks_48 0 rfl ?_
              obtain ⟨x49, e49, h⟩ := Sat_bind h
              refine r_getP fk_X4_30 rfl e49 dX4_byTalks_49 ?_
              obtain ⟨x52, e52, h⟩ := Sat_bind h
              refine r_len e52 dX4_byTalks_52 ?_
              refine r_icmp_ge 113 dX4_byTalks_53 (by decide) (fun c53 => ?_) (fun c53 => ?_)
              · have h := Sat_pos c53 h
                have h := hX34 _ (Sat_some h)
                refine r_iload dX4_byTalks_113 3 rfl ?_
                exact r_ireturn rfl (by rw [← Sat_eq h]; exact ⟨rfl, rfl⟩) dX4_byTalks_115
              · have h := Sat_neg c53 h
                refine r_aload_n dX4_byTalks_56 0 rfl ?_
                obtain ⟨x57, e57, h⟩ := Sat_bind h
                refine r_getP fk_X4_18 rfl e57 dX4_byTalks_57 ?_
                refine r_iload_n dX4_byTalks_60 1 rfl ?_
                obtain ⟨x61, e61, h⟩ := Sat_bind h
                refine r_iaload e61 dX4_byTalks_61 ?_
                refine r_iload dX4_byTalks_62 4 rfl ?_
                refine r_ishr dX4_byTalks_64 ?_
                refine r_iconst (v := 1) dX4_byTalks_65 (by decide) ?_
                refine r_iand dX4_byTalks_66 ?_
                refine r_if_eq 74 dX4_byTalks_67 (by decide) (fun c67 => ?_) (fun c67 => ?_)
                · have h := Sat_pos c67 h
                  refine r_iconst (v := 0) dX4_byTalks_74 (by decide) ?_
                  exact r_sub [0, 1, 2, 3, 4] rfl (J75 s34.1 s34.2 (0 : Int32) h)
                · have h := Sat_neg c67 h
                  refine r_iconst (v := 1) dX4_byTalks_70 (by decide) ?_
                  refine r_goto 75 dX4_byTalks_71 (by decide) ?_
                  exact r_sub [0, 1, 2, 3, 4] rfl (J75 s34.1 s34.2 (1 : Int32) h)
        · have h := Sat_pos c23 h
          refine r_iload_n dX4_byTalks_26 1 rfl ?_
          exact r_ireturn rfl (by rw [← Sat_eq h]; exact ⟨rfl, rfl⟩) dX4_byTalks_27
theorem dX4_byDay_0 : decode cX4_byDay 0 = .ok (.iload_n 2, 1) := by decide +kernel
theorem dX4_byDay_1 : decode cX4_byDay 1 = .ok (.ifCond .lt 9, 3) := by decide +kernel
theorem dX4_byDay_4 : decode cX4_byDay 4 = .ok (.iload_n 2, 1) := by decide +kernel
theorem dX4_byDay_5 : decode cX4_byDay 5 = .ok (.bipush 28, 2) := by decide +kernel
theorem dX4_byDay_7 : decode cX4_byDay 7 = .ok (.if_icmp .lt 5, 3) := by decide +kernel
theorem dX4_byDay_10 : decode cX4_byDay 10 = .ok (.iload_n 1, 1) := by decide +kernel
theorem dX4_byDay_11 : decode cX4_byDay 11 = .ok (.ireturn, 1) := by decide +kernel
theorem dX4_byDay_12 : decode cX4_byDay 12 = .ok (.aload_n 0, 1) := by decide +kernel
theorem dX4_byDay_13 : decode cX4_byDay 13 = .ok (.getfield 15, 3) := by decide +kernel
theorem dX4_byDay_16 : decode cX4_byDay 16 = .ok (.iload_n 2, 1) := by decide +kernel
theorem dX4_byDay_17 : decode cX4_byDay 17 = .ok (.iaload, 1) := by decide +kernel
theorem dX4_byDay_18 : decode cX4_byDay 18 = .ok (.aload_n 0, 1) := by decide +kernel
theorem dX4_byDay_19 : decode cX4_byDay 19 = .ok (.getfield 18, 3) := by decide +kernel
theorem dX4_byDay_22 : decode cX4_byDay 22 = .ok (.iload_n 2, 1) := by decide +kernel
theorem dX4_byDay_23 : decode cX4_byDay 23 = .ok (.iaload, 1) := by decide +kernel
theorem dX4_byDay_24 : decode cX4_byDay 24 = .ok (.ior, 1) := by decide +kernel
theorem dX4_byDay_25 : decode cX4_byDay 25 = .ok (.ifCond .ne 10, 3) := by decide +kernel
theorem dX4_byDay_28 : decode cX4_byDay 28 = .ok (.aload_n 0, 1) := by decide +kernel
theorem dX4_byDay_29 : decode cX4_byDay 29 = .ok (.iload_n 1, 1) := by decide +kernel
theorem dX4_byDay_30 : decode cX4_byDay 30 = .ok (.iload_n 2, 1) := by decide +kernel
theorem dX4_byDay_31 : decode cX4_byDay 31 = .ok (.invokevirtual 108, 3) := by decide +kernel
theorem dX4_byDay_34 : decode cX4_byDay 34 = .ok (.ireturn, 1) := by decide +kernel
theorem dX4_byDay_35 : decode cX4_byDay 35 = .ok (.aload_n 0, 1) := by decide +kernel
theorem dX4_byDay_36 : decode cX4_byDay 36 = .ok (.aload_n 0, 1) := by decide +kernel
theorem dX4_byDay_37 : decode cX4_byDay 37 = .ok (.aload_n 0, 1) := by decide +kernel
theorem dX4_byDay_38 : decode cX4_byDay 38 = .ok (.iload_n 1, 1) := by decide +kernel
theorem dX4_byDay_39 : decode cX4_byDay 39 = .ok (.iload_n 2, 1) := by decide +kernel
theorem dX4_byDay_40 : decode cX4_byDay 40 = .ok (.invokevirtual 108, 3) := by decide +kernel
theorem dX4_byDay_43 : decode cX4_byDay 43 = .ok (.iload_n 2, 1) := by decide +kernel
theorem dX4_byDay_44 : decode cX4_byDay 44 = .ok (.invokevirtual 111, 3) := by decide +kernel
theorem dX4_byDay_47 : decode cX4_byDay 47 = .ok (.iload_n 2, 1) := by decide +kernel
theorem dX4_byDay_48 : decode cX4_byDay 48 = .ok (.iconst 0, 1) := by decide +kernel
theorem dX4_byDay_49 : decode cX4_byDay 49 = .ok (.bipush 8, 2) := by decide +kernel
theorem dX4_byDay_51 : decode cX4_byDay 51 = .ok (.invokevirtual 114, 3) := by decide +kernel
theorem dX4_byDay_54 : decode cX4_byDay 54 = .ok (.ireturn, 1) := by decide +kernel
noncomputable def f_X4_byDay (a0 : Nat) (l1 : Int32) (l2 : Int32) (μ : Mm) : Option Int32 :=
  if (mm_K μ a0).1 = 5 then if l2 < 0 then some l1 else if l2 < (28 : Int32) then (gf_P 5 1 a0 μ).bind fun x13 => (ga_I x13 l2 μ).bind fun x17 => (gf_P 5 2 a0 μ).bind fun x19 => (ga_I x19 l2 μ).bind fun x23 => if (x17 ||| x23) = 0 then (f_X4_byItself a0 l1 l2 μ).bind fun x31 => some x31 else (f_X4_byItself a0 l1 l2 μ).bind fun x40 => (f_X4_byNaps a0 x40 l2 μ).bind fun x44 => (f_X4_byTalks a0 x44 l2 (0 : Int32) (8 : Int32) μ).bind fun x51 => some x51 else some l1 else none
abbrev Rn_X4_byDay (G : Gv) (Q : Option Value → Mm → Prop) (pc : Nat) (lv : List (Nat × Value)) (st : List Value) (μ : Mm) : Prop := Rn G RX4 cX4_byDay 3 (some .int) "byDay" (rmd 1 0 0) (Zm G 0 0 Q) 0 0 pc lv st μ
set_option maxRecDepth 100000 in
set_option maxHeartbeats 4000000 in
theorem m_X4_byDay {G : Gv} (a0 : Nat) (l1 : Int32) (l2 : Int32) (μ : Mm) {r : Int32} (hx : f_X4_byDay a0 l1 l2 μ = some r) : Mt G yX4_byDay cX4_byDay 3 (some .int) 1 0 0 [.ref a0, .int l1, .int l2] μ (fun v μ' => v = some (.int r) ∧ μ' = μ) := by
  refine Mt.of (by decide) (Nat.le_of_ble_eq_true rfl) ?_
  show Rn_X4_byDay G (fun v μ' => v = some (.int r) ∧ μ' = μ) 0 [(0, .ref a0), (1, .int l1), (2, .int l2)] [] μ
  obtain ⟨_, h⟩ := Sat_ifp (show Sat (f_X4_byDay a0 l1 l2 μ) (fun x => x = r) from ⟨_, hx, rfl⟩)
  refine r_iload_n dX4_byDay_0 2 rfl ?_
  refine r_if_lt 10 dX4_byDay_1 (by decide) (fun c1 => ?_) (fun c1 => ?_)
  · have h := Sat_pos c1 h
    refine r_iload_n dX4_byDay_10 1 rfl ?_
    exact r_ireturn rfl (by rw [← Sat_eq h]; exact ⟨rfl, rfl⟩) dX4_byDay_11
  · have h := Sat_neg c1 h
    refine r_iload_n dX4_byDay_4 2 rfl ?_
    refine r_bipush (v := 28) dX4_byDay_5 (by decide) ?_
    refine r_icmp_lt 12 dX4_byDay_7 (by decide) (fun c7 => ?_) (fun c7 => ?_)
    · have h := Sat_pos c7 h
      refine r_aload_n dX4_byDay_12 0 rfl ?_
      obtain ⟨x13, e13, h⟩ := Sat_bind h
      refine r_getP fk_X4_15 rfl e13 dX4_byDay_13 ?_
      refine r_iload_n dX4_byDay_16 2 rfl ?_
      obtain ⟨x17, e17, h⟩ := Sat_bind h
      refine r_iaload e17 dX4_byDay_17 ?_
      refine r_aload_n dX4_byDay_18 0 rfl ?_
      obtain ⟨x19, e19, h⟩ := Sat_bind h
      refine r_getP fk_X4_18 rfl e19 dX4_byDay_19 ?_
      refine r_iload_n dX4_byDay_22 2 rfl ?_
      obtain ⟨x23, e23, h⟩ := Sat_bind h
      refine r_iaload e23 dX4_byDay_23 ?_
      refine r_ior dX4_byDay_24 ?_
      refine r_if_ne 35 dX4_byDay_25 (by decide) (fun c25 => ?_) (fun c25 => ?_)
      · have h := Sat_neg c25 h
        refine r_aload_n dX4_byDay_35 0 rfl ?_
        refine r_aload_n dX4_byDay_36 0 rfl ?_
        refine r_aload_n dX4_byDay_37 0 rfl ?_
        refine r_iload_n dX4_byDay_38 1 rfl ?_
        refine r_iload_n dX4_byDay_39 2 rfl ?_
        obtain ⟨x40, e40, h⟩ := Sat_bind h
        refine r_cV (t := 5) [.int l1, .int l2] [.ref a0, .ref a0] (m_X4_byItself a0 l1 l2 μ e40) ck_X4_byItself lk_X4_108 in_X4_byItself se_X4_byItself (kd_of e40) ⟨rfl, by decide, by decide⟩ rfl rfl (Nat.le_of_ble_eq_true rfl) ⟨by decide, by decide⟩ ⟨Nat.zero_le _, Nat.zero_le _⟩ dX4_byDay_40 ?_
        refine r_iload_n dX4_byDay_43 2 rfl ?_
        obtain ⟨x44, e44, h⟩ := Sat_bind h
        refine r_cV (t := 5) [.int x40, .int l2] [.ref a0] (m_X4_byNaps a0 x40 l2 μ e44) ck_X4_byNaps lk_X4_111 in_X4_byNaps se_X4_byNaps (kd_of e44) ⟨rfl, by decide, by decide⟩ rfl rfl (Nat.le_of_ble_eq_true rfl) ⟨by decide, by decide⟩ ⟨Nat.zero_le _, Nat.zero_le _⟩ dX4_byDay_44 ?_
        refine r_iload_n dX4_byDay_47 2 rfl ?_
        refine r_iconst (v := 0) dX4_byDay_48 (by decide) ?_
        refine r_bipush (v := 8) dX4_byDay_49 (by decide) ?_
        obtain ⟨x51, e51, h⟩ := Sat_bind h
        refine r_cV (t := 5) [.int x44, .int l2, .int (0 : Int32), .int (8 : Int32)] [] (m_X4_byTalks a0 x44 l2 (0 : Int32) (8 : Int32) μ e51) ck_X4_byTalks lk_X4_114 in_X4_byTalks se_X4_byTalks (kd_of e51) ⟨rfl, by decide, by decide⟩ rfl rfl (Nat.le_of_ble_eq_true rfl) ⟨by decide, by decide⟩ ⟨Nat.zero_le _, Nat.zero_le _⟩ dX4_byDay_51 ?_
        exact r_ireturn rfl (by rw [← Sat_eq h]; exact ⟨rfl, rfl⟩) dX4_byDay_54
      · have h := Sat_pos c25 h
        refine r_aload_n dX4_byDay_28 0 rfl ?_
        refine r_iload_n dX4_byDay_29 1 rfl ?_
        refine r_iload_n dX4_byDay_30 2 rfl ?_
        obtain ⟨x31, e31, h⟩ := Sat_bind h
        refine r_cV (t := 5) [.int l1, .int l2] [] (m_X4_byItself a0 l1 l2 μ e31) ck_X4_byItself lk_X4_108 in_X4_byItself se_X4_byItself (kd_of e31) ⟨rfl, by decide, by decide⟩ rfl rfl (Nat.le_of_ble_eq_true rfl) ⟨by decide, by decide⟩ ⟨Nat.zero_le _, Nat.zero_le _⟩ dX4_byDay_31 ?_
        exact r_ireturn rfl (by rw [← Sat_eq h]; exact ⟨rfl, rfl⟩) dX4_byDay_34
    · have h := Sat_neg c7 h
      refine r_iload_n dX4_byDay_10 1 rfl ?_
      exact r_ireturn rfl (by rw [← Sat_eq h]; exact ⟨rfl, rfl⟩) dX4_byDay_11
theorem dX4_byNight_0 : decode cX4_byNight 0 = .ok (.aload_n 0, 1) := by decide +kernel
theorem dX4_byNight_1 : decode cX4_byNight 1 = .ok (.getfield 98, 3) := by decide +kernel
theorem dX4_byNight_4 : decode cX4_byNight 4 = .ok (.ifCond .eq 13, 3) := by decide +kernel
theorem dX4_byNight_7 : decode cX4_byNight 7 = .ok (.iload_n 2, 1) := by decide +kernel
theorem dX4_byNight_8 : decode cX4_byNight 8 = .ok (.ifCond .lt 9, 3) := by decide +kernel
theorem dX4_byNight_11 : decode cX4_byNight 11 = .ok (.iload_n 2, 1) := by decide +kernel
theorem dX4_byNight_12 : decode cX4_byNight 12 = .ok (.bipush 28, 2) := by decide +kernel
theorem dX4_byNight_14 : decode cX4_byNight 14 = .ok (.if_icmp .lt 5, 3) := by decide +kernel
theorem dX4_byNight_17 : decode cX4_byNight 17 = .ok (.iload_n 1, 1) := by decide +kernel
theorem dX4_byNight_18 : decode cX4_byNight 18 = .ok (.ireturn, 1) := by decide +kernel
theorem dX4_byNight_19 : decode cX4_byNight 19 = .ok (.iload_n 1, 1) := by decide +kernel
theorem dX4_byNight_20 : decode cX4_byNight 20 = .ok (.istore_n 3, 1) := by decide +kernel
theorem dX4_byNight_21 : decode cX4_byNight 21 = .ok (.iload_n 1, 1) := by decide +kernel
theorem dX4_byNight_22 : decode cX4_byNight 22 = .ok (.aload_n 0, 1) := by decide +kernel
theorem dX4_byNight_23 : decode cX4_byNight 23 = .ok (.getfield 9, 3) := by decide +kernel
theorem dX4_byNight_26 : decode cX4_byNight 26 = .ok (.iload_n 2, 1) := by decide +kernel
theorem dX4_byNight_27 : decode cX4_byNight 27 = .ok (.iaload, 1) := by decide +kernel
theorem dX4_byNight_28 : decode cX4_byNight 28 = .ok (.aload_n 0, 1) := by decide +kernel
theorem dX4_byNight_29 : decode cX4_byNight 29 = .ok (.getfield 95, 3) := by decide +kernel
theorem dX4_byNight_32 : decode cX4_byNight 32 = .ok (.ior, 1) := by decide +kernel
theorem dX4_byNight_33 : decode cX4_byNight 33 = .ok (.iconst (-1), 1) := by decide +kernel
theorem dX4_byNight_34 : decode cX4_byNight 34 = .ok (.ixor, 1) := by decide +kernel
theorem dX4_byNight_35 : decode cX4_byNight 35 = .ok (.iand, 1) := by decide +kernel
theorem dX4_byNight_36 : decode cX4_byNight 36 = .ok (.istore 4, 2) := by decide +kernel
theorem dX4_byNight_38 : decode cX4_byNight 38 = .ok (.iconst 0, 1) := by decide +kernel
theorem dX4_byNight_39 : decode cX4_byNight 39 = .ok (.istore 5, 2) := by decide +kernel
theorem dX4_byNight_41 : decode cX4_byNight 41 = .ok (.iload 5, 2) := by decide +kernel
theorem dX4_byNight_43 : decode cX4_byNight 43 = .ok (.bipush 8, 2) := by decide +kernel
theorem dX4_byNight_45 : decode cX4_byNight 45 = .ok (.if_icmp .ge 37, 3) := by decide +kernel
theorem dX4_byNight_48 : decode cX4_byNight 48 = .ok (.iload 4, 2) := by decide +kernel
theorem dX4_byNight_50 : decode cX4_byNight 50 = .ok (.iload 5, 2) := by decide +kernel
theorem dX4_byNight_52 : decode cX4_byNight 52 = .ok (.ishr, 1) := by decide +kernel
theorem dX4_byNight_53 : decode cX4_byNight 53 = .ok (.ifCond .eq 29, 3) := by decide +kernel
theorem dX4_byNight_56 : decode cX4_byNight 56 = .ok (.iload 4, 2) := by decide +kernel
theorem dX4_byNight_58 : decode cX4_byNight 58 = .ok (.iload 5, 2) := by decide +kernel
theorem dX4_byNight_60 : decode cX4_byNight 60 = .ok (.ishr, 1) := by decide +kernel
theorem dX4_byNight_61 : decode cX4_byNight 61 = .ok (.iconst 1, 1) := by decide +kernel
theorem dX4_byNight_62 : decode cX4_byNight 62 = .ok (.iand, 1) := by decide +kernel
theorem dX4_byNight_63 : decode cX4_byNight 63 = .ok (.ifCond .eq 13, 3) := by decide +kernel
theorem dX4_byNight_66 : decode cX4_byNight 66 = .ok (.iload_n 3, 1) := by decide +kernel
theorem dX4_byNight_67 : decode cX4_byNight 67 = .ok (.aload_n 0, 1) := by decide +kernel
theorem dX4_byNight_68 : decode cX4_byNight 68 = .ok (.getfield 24, 3) := by decide +kernel
theorem dX4_byNight_71 : decode cX4_byNight 71 = .ok (.iload 5, 2) := by decide +kernel
theorem dX4_byNight_73 : decode cX4_byNight 73 = .ok (.iaload, 1) := by decide +kernel
theorem dX4_byNight_74 : decode cX4_byNight 74 = .ok (.ior, 1) := by decide +kernel
theorem dX4_byNight_75 : decode cX4_byNight 75 = .ok (.istore_n 3, 1) := by decide +kernel
theorem dX4_byNight_76 : decode cX4_byNight 76 = .ok (.iinc 5 1, 3) := by decide +kernel
theorem dX4_byNight_79 : decode cX4_byNight 79 = .ok (.goto (-38), 3) := by decide +kernel
theorem dX4_byNight_82 : decode cX4_byNight 82 = .ok (.iload_n 3, 1) := by decide +kernel
theorem dX4_byNight_83 : decode cX4_byNight 83 = .ok (.ireturn, 1) := by decide +kernel
noncomputable def f_X4_byNight_J76 (a0 : Nat) (l3 : Int32) (l4 : Int32) (l5 : Int32) (μ : Mm) : Option ((Int32 × Int32) ⊕ (Int32)) :=
  (some (l5 + (1 : Int32))).bind fun v76 => some (.inl (l3, v76))
noncomputable def f_X4_byNight_L41 (a0 : Nat) (l4 : Int32) (μ : Mm) (s41 : Int32 × Int32) : Option ((Int32 × Int32) ⊕ (Int32)) :=
  if (8 : Int32) ≤ s41.2 then some (.inr s41.1) else if (l4 >>> (s41.2 &&& 31)) = 0 then some (.inr s41.1) else if ((l4 >>> (s41.2 &&& 31)) &&& (1 : Int32)) = 0 then f_X4_byNight_J76 a0 s41.1 l4 s41.2 μ else (gf_P 5 4 a0 μ).bind fun x68 => (ga_I x68 s41.2 μ).bind fun x73 => (some (s41.1 ||| x73)).bind fun v75 => f_X4_byNight_J76 a0 v75 l4 s41.2 μ
noncomputable def f_X4_byNight (a0 : Nat) (l1 : Int32) (l2 : Int32) (μ : Mm) : Option Int32 :=
  if (mm_K μ a0).1 = 5 then (gf_I 5 11 a0 μ).bind fun x1 => if x1 = 0 then some l1 else if l2 < 0 then some l1 else if l2 < (28 : Int32) then (gf_P 5 0 a0 μ).bind fun x23 => (ga_I x23 l2 μ).bind fun x27 => (gf_I 5 10 a0 μ).bind fun x29 => (some (l1 &&& ((x27 ||| x29) ^^^ (-1 : Int32)))).bind fun v36 => (whl (f_X4_byNight_L41 a0 v36 μ) (l1, (0 : Int32))).bind (fun b41 => some b41) else some l1 else none
abbrev Rn_X4_byNight (G : Gv) (Q : Option Value → Mm → Prop) (pc : Nat) (lv : List (Nat × Value)) (st : List Value) (μ : Mm) : Prop := Rn G RX4 cX4_byNight 6 (some .int) "byNight" (rmd 0 0 0) (Zm G 0 0 Q) 0 0 pc lv st μ
set_option maxRecDepth 100000 in
set_option maxHeartbeats 4000000 in
theorem m_X4_byNight {G : Gv} (a0 : Nat) (l1 : Int32) (l2 : Int32) (μ : Mm) {r : Int32} (hx : f_X4_byNight a0 l1 l2 μ = some r) : Mt G yX4_byNight cX4_byNight 6 (some .int) 0 0 0 [.ref a0, .int l1, .int l2] μ (fun v μ' => v = some (.int r) ∧ μ' = μ) := by
  refine Mt.of (by decide) (Nat.le_of_ble_eq_true rfl) ?_
  show Rn_X4_byNight G (fun v μ' => v = some (.int r) ∧ μ' = μ) 0 [(0, .ref a0), (1, .int l1), (2, .int l2)] [] μ
  obtain ⟨_, h⟩ := Sat_ifp (show Sat (f_X4_byNight a0 l1 l2 μ) (fun x => x = r) from ⟨_, hx, rfl⟩)
  refine r_aload_n dX4_byNight_0 0 rfl ?_
  obtain ⟨x1, e1, h⟩ := Sat_bind h
  refine r_getI fk_X4_98 rfl e1 dX4_byNight_1 ?_
  refine r_if_eq 17 dX4_byNight_4 (by decide) (fun c4 => ?_) (fun c4 => ?_)
  · have h := Sat_pos c4 h
    refine r_iload_n dX4_byNight_17 1 rfl ?_
    exact r_ireturn rfl (by rw [← Sat_eq h]; exact ⟨rfl, rfl⟩) dX4_byNight_18
  · have h := Sat_neg c4 h
    refine r_iload_n dX4_byNight_7 2 rfl ?_
    refine r_if_lt 17 dX4_byNight_8 (by decide) (fun c8 => ?_) (fun c8 => ?_)
    · have h := Sat_pos c8 h
      refine r_iload_n dX4_byNight_17 1 rfl ?_
      exact r_ireturn rfl (by rw [← Sat_eq h]; exact ⟨rfl, rfl⟩) dX4_byNight_18
    · have h := Sat_neg c8 h
      refine r_iload_n dX4_byNight_11 2 rfl ?_
      refine r_bipush (v := 28) dX4_byNight_12 (by decide) ?_
      refine r_icmp_lt 19 dX4_byNight_14 (by decide) (fun c14 => ?_) (fun c14 => ?_)
      · have h := Sat_pos c14 h
        refine r_iload_n dX4_byNight_19 1 rfl ?_
        refine r_istore_n (lv' := [(3, .int l1), (0, .ref a0), (1, .int l1), (2, .int l2)]) dX4_byNight_20 rfl (by decide) rfl ?_
        refine r_iload_n dX4_byNight_21 2 rfl ?_
        refine r_aload_n dX4_byNight_22 1 rfl ?_
        obtain ⟨x23, e23, h⟩ := Sat_bind h
        refine r_getP fk_X4_9 rfl e23 dX4_byNight_23 ?_
        refine r_iload_n dX4_byNight_26 3 rfl ?_
        obtain ⟨x27, e27, h⟩ := Sat_bind h
        refine r_iaload e27 dX4_byNight_27 ?_
        refine r_aload_n dX4_byNight_28 1 rfl ?_
        obtain ⟨x29, e29, h⟩ := Sat_bind h
        refine r_getI fk_X4_95 rfl e29 dX4_byNight_29 ?_
        refine r_ior dX4_byNight_32 ?_
        refine r_iconst (v := -1) dX4_byNight_33 (by decide) ?_
        refine r_ixor dX4_byNight_34 ?_
        refine r_iand dX4_byNight_35 ?_
        obtain ⟨v36, e36, h⟩ := Sat_bind h
        refine r_topi (Option.some.inj e36) ?_
        refine r_istore (lv' := [(4, .int v36), (3, .int l1), (0, .ref a0), (1, .int l1), (2, .int l2)]) dX4_byNight_36 (by decide) rfl ?_
        refine r_iconst (v := 0) dX4_byNight_38 (by decide) ?_
        refine r_istore (lv' := [(5, .int (0 : Int32)), (4, .int v36), (3, .int l1), (0, .ref a0), (1, .int l1), (2, .int l2)]) dX4_byNight_39 (by decide) rfl ?_
        refine r_sub (lv' := [(0, .ref a0), (3, .int l1), (4, .int v36), (5, .int (0 : Int32))]) [3, 2, 1, 0] rfl ?_
        refine whl_K (s0 := ((l1, (0 : Int32)) : Int32 × Int32)) (RR := fun (s41 : Int32 × Int32) => Rn_X4_byNight G (fun v μ' => v = some (.int r) ∧ μ' = μ) 41 [(0, .ref a0), (3, .int s41.1), (4, .int v36), (5, .int s41.2)] [] μ) ?_ (Sat_bindK h)
        intro s41 K41 hI41 hX41 h
        have J76 : ∀ (l3_76 : Int32) (l5_76 : Int32), Sat (f_X4_byNight_J76 a0 l3_76 v36 l5_76 μ) K41 → Rn_X4_byNight G (fun v μ' => v = some (.int r) ∧ μ' = μ) 76 [(0, .ref a0), (3, .int l3_76), (4, .int v36), (5, .int l5_76)] [] μ := by
          intro l3_76 l5_76 h
          obtain ⟨v76, e76, h⟩ := Sat_bind h
          refine r_iinc (j := 3) (v := v76) (lv' := [(5, .int v76), (0, .ref a0), (3, .int l3_76), (4, .int v36)]) dX4_byNight_76 rfl (iinc_v e76 (by decide)) (by decide) rfl ?_
          refine r_goto 41 dX4_byNight_79 (by decide) ?_
          exact r_sub [1, 2, 3, 0] rfl (hI41 _ (Sat_some h))
        refine r_iload dX4_byNight_41 3 rfl ?_
        refine r_bipush (v := 8) dX4_byNight_43 (by decide) ?_
        refine r_icmp_ge 82 dX4_byNight_45 (by decide) (fun c45 => ?_) (fun c45 => ?_)
        · have h := Sat_pos c45 h
          have h := hX41 _ (Sat_some h)
          refine r_iload_n dX4_byNight_82 1 rfl ?_
          exact r_ireturn rfl (by rw [← Sat_eq h]; exact ⟨rfl, rfl⟩) dX4_byNight_83
        · have h := Sat_neg c45 h
          refine r_iload dX4_byNight_48 2 rfl ?_
          refine r_iload dX4_byNight_50 3 rfl ?_
          refine r_ishr dX4_byNight_52 ?_
          refine r_if_eq 82 dX4_byNight_53 (by decide) (fun c53 => ?_) (fun c53 => ?_)
          · have h := Sat_pos c53 h
            have h := hX41 _ (Sat_some h)
            refine r_iload_n dX4_byNight_82 1 rfl ?_
            exact r_ireturn rfl (by rw [← Sat_eq h]; exact ⟨rfl, rfl⟩) dX4_byNight_83
          · have h := Sat_neg c53 h
            refine r_iload dX4_byNight_56 2 rfl ?_
            refine r_iload dX4_byNight_58 3 rfl ?_
            refine r_ishr dX4_byNight_60 ?_
            refine r_iconst (v := 1) dX4_byNight_61 (by decide) ?_
            refine r_iand dX4_byNight_62 ?_
            refine r_if_eq 76 dX4_byNight_63 (by decide) (fun c63 => ?_) (fun c63 => ?_)
            · have h := Sat_pos c63 h
              exact r_sub [0, 1, 2, 3] rfl (J76 s41.1 s41.2 h)
            · have h := Sat_neg c63 h
              refine r_iload_n dX4_byNight_66 1 rfl ?_
              refine r_aload_n dX4_byNight_67 0 rfl ?_
              obtain ⟨x68, e68, h⟩ := Sat_bind h
              refine r_getP fk_X4_24 rfl e68 dX4_byNight_68 ?_
              refine r_iload dX4_byNight_71 3 rfl ?_
              obtain ⟨x73, e73, h⟩ := Sat_bind h
              refine r_iaload e73 dX4_byNight_73 ?_
              refine r_ior dX4_byNight_74 ?_
              obtain ⟨v75, e75, h⟩ := Sat_bind h
              refine r_topi (Option.some.inj e75) ?_
              refine r_istore_n (lv' := [(3, .int v75), (0, .ref a0), (4, .int v36), (5, .int s41.2)]) dX4_byNight_75 rfl (by decide) rfl ?_
              exact r_sub [1, 0, 2, 3] rfl (J76 v75 s41.2 h)
      · have h := Sat_neg c14 h
        refine r_iload_n dX4_byNight_17 1 rfl ?_
        exact r_ireturn rfl (by rw [← Sat_eq h]; exact ⟨rfl, rfl⟩) dX4_byNight_18
theorem dX4_firstDayOfAll_0 : decode cX4_firstDayOfAll 0 = .ok (.iconst 1, 1) := by decide +kernel
theorem dX4_firstDayOfAll_1 : decode cX4_firstDayOfAll 1 = .ok (.aload_n 0, 1) := by decide +kernel
theorem dX4_firstDayOfAll_2 : decode cX4_firstDayOfAll 2 = .ok (.getfield 33, 3) := by decide +kernel
theorem dX4_firstDayOfAll_5 : decode cX4_firstDayOfAll 5 = .ok (.getfield 127, 3) := by decide +kernel
theorem dX4_firstDayOfAll_8 : decode cX4_firstDayOfAll 8 = .ok (.ishl, 1) := by decide +kernel
theorem dX4_firstDayOfAll_9 : decode cX4_firstDayOfAll 9 = .ok (.iconst 1, 1) := by decide +kernel
theorem dX4_firstDayOfAll_10 : decode cX4_firstDayOfAll 10 = .ok (.isub, 1) := by decide +kernel
theorem dX4_firstDayOfAll_11 : decode cX4_firstDayOfAll 11 = .ok (.istore_n 1, 1) := by decide +kernel
theorem dX4_firstDayOfAll_12 : decode cX4_firstDayOfAll 12 = .ok (.iconst 0, 1) := by decide +kernel
theorem dX4_firstDayOfAll_13 : decode cX4_firstDayOfAll 13 = .ok (.istore_n 2, 1) := by decide +kernel
theorem dX4_firstDayOfAll_14 : decode cX4_firstDayOfAll 14 = .ok (.aload_n 0, 1) := by decide +kernel
theorem dX4_firstDayOfAll_15 : decode cX4_firstDayOfAll 15 = .ok (.getfield 89, 3) := by decide +kernel
theorem dX4_firstDayOfAll_18 : decode cX4_firstDayOfAll 18 = .ok (.istore_n 3, 1) := by decide +kernel
theorem dX4_firstDayOfAll_19 : decode cX4_firstDayOfAll 19 = .ok (.iload_n 3, 1) := by decide +kernel
theorem dX4_firstDayOfAll_20 : decode cX4_firstDayOfAll 20 = .ok (.bipush 28, 2) := by decide +kernel
theorem dX4_firstDayOfAll_22 : decode cX4_firstDayOfAll 22 = .ok (.if_icmp .ge 28, 3) := by decide +kernel
theorem dX4_firstDayOfAll_25 : decode cX4_firstDayOfAll 25 = .ok (.aload_n 0, 1) := by decide +kernel
theorem dX4_firstDayOfAll_26 : decode cX4_firstDayOfAll 26 = .ok (.aload_n 0, 1) := by decide +kernel
theorem dX4_firstDayOfAll_27 : decode cX4_firstDayOfAll 27 = .ok (.iload_n 2, 1) := by decide +kernel
theorem dX4_firstDayOfAll_28 : decode cX4_firstDayOfAll 28 = .ok (.iload_n 3, 1) := by decide +kernel
theorem dX4_firstDayOfAll_29 : decode cX4_firstDayOfAll 29 = .ok (.invokevirtual 118, 3) := by decide +kernel
theorem dX4_firstDayOfAll_32 : decode cX4_firstDayOfAll 32 = .ok (.iload_n 3, 1) := by decide +kernel
theorem dX4_firstDayOfAll_33 : decode cX4_firstDayOfAll 33 = .ok (.invokevirtual 121, 3) := by decide +kernel
theorem dX4_firstDayOfAll_36 : decode cX4_firstDayOfAll 36 = .ok (.istore_n 2, 1) := by decide +kernel
theorem dX4_firstDayOfAll_37 : decode cX4_firstDayOfAll 37 = .ok (.iload_n 2, 1) := by decide +kernel
theorem dX4_firstDayOfAll_38 : decode cX4_firstDayOfAll 38 = .ok (.iload_n 1, 1) := by decide +kernel
theorem dX4_firstDayOfAll_39 : decode cX4_firstDayOfAll 39 = .ok (.if_icmp .ne 5, 3) := by decide +kernel
theorem dX4_firstDayOfAll_42 : decode cX4_firstDayOfAll 42 = .ok (.iload_n 3, 1) := by decide +kernel
theorem dX4_firstDayOfAll_43 : decode cX4_firstDayOfAll 43 = .ok (.ireturn, 1) := by decide +kernel
theorem dX4_firstDayOfAll_44 : decode cX4_firstDayOfAll 44 = .ok (.iinc 3 1, 3) := by decide +kernel
theorem dX4_firstDayOfAll_47 : decode cX4_firstDayOfAll 47 = .ok (.goto (-28), 3) := by decide +kernel
theorem dX4_firstDayOfAll_50 : decode cX4_firstDayOfAll 50 = .ok (.iconst (-1), 1) := by decide +kernel
theorem dX4_firstDayOfAll_51 : decode cX4_firstDayOfAll 51 = .ok (.ireturn, 1) := by decide +kernel
noncomputable def f_X4_firstDayOfAll_L19 (a0 : Nat) (l1 : Int32) (μ : Mm) (s19 : Int32 × Int32) : Option ((Int32 × Int32) ⊕ ((Int32) ⊕ (Unit))) :=
  if (28 : Int32) ≤ s19.2 then some (.inr (.inr ())) else (f_X4_byDay a0 s19.1 s19.2 μ).bind fun x29 => (f_X4_byNight a0 x29 s19.2 μ).bind fun x33 => if x33 = l1 then some (.inr (.inl s19.2)) else (some (s19.2 + (1 : Int32))).bind fun v44 => some (.inl (x33, v44))
noncomputable def f_X4_firstDayOfAll (a0 : Nat) (μ : Mm) : Option Int32 :=
  if (mm_K μ a0).1 = 5 then (gf_P 5 7 a0 μ).bind fun x2 => (gf_I 8 9 x2 μ).bind fun x5 => (some (((1 : Int32) <<< (x5 &&& 31)) - (1 : Int32))).bind fun v11 => (gf_I 5 8 a0 μ).bind fun x15 => (whl (f_X4_firstDayOfAll_L19 a0 v11 μ) ((0 : Int32), x15)).bind (sm (fun b19 => some b19) (fun b19 => some (-1 : Int32))) else none
abbrev Rn_X4_firstDayOfAll (G : Gv) (Q : Option Value → Mm → Prop) (pc : Nat) (lv : List (Nat × Value)) (st : List Value) (μ : Mm) : Prop := Rn G RX4 cX4_firstDayOfAll 4 (some .int) "firstDayOfAll" (rmd 2 0 0) (Zm G 0 0 Q) 0 0 pc lv st μ
set_option maxRecDepth 100000 in
set_option maxHeartbeats 4000000 in
theorem m_X4_firstDayOfAll {G : Gv} (a0 : Nat) (μ : Mm) {r : Int32} (hx : f_X4_firstDayOfAll a0 μ = some r) : Mt G yX4_firstDayOfAll cX4_firstDayOfAll 4 (some .int) 2 0 0 [.ref a0] μ (fun v μ' => v = some (.int r) ∧ μ' = μ) := by
  refine Mt.of (by decide) (Nat.le_of_ble_eq_true rfl) ?_
  show Rn_X4_firstDayOfAll G (fun v μ' => v = some (.int r) ∧ μ' = μ) 0 [(0, .ref a0)] [] μ
  obtain ⟨_, h⟩ := Sat_ifp (show Sat (f_X4_firstDayOfAll a0 μ) (fun x => x = r) from ⟨_, hx, rfl⟩)
  refine r_iconst (v := 1) dX4_firstDayOfAll_0 (by decide) ?_
  refine r_aload_n dX4_firstDayOfAll_1 0 rfl ?_
  obtain ⟨x2, e2, h⟩ := Sat_bind h
  refine r_getP fk_X4_33 rfl e2 dX4_firstDayOfAll_2 ?_
  obtain ⟨x5, e5, h⟩ := Sat_bind h
  refine r_getI fk_X4_127 rfl e5 dX4_firstDayOfAll_5 ?_
  refine r_ishl dX4_firstDayOfAll_8 ?_
  refine r_iconst (v := 1) dX4_firstDayOfAll_9 (by decide) ?_
  refine r_isub dX4_firstDayOfAll_10 ?_
  obtain ⟨v11, e11, h⟩ := Sat_bind h
  refine r_topi (Option.some.inj e11) ?_
  refine r_istore_n (lv' := [(1, .int v11), (0, .ref a0)]) dX4_firstDayOfAll_11 rfl (by decide) rfl ?_
  refine r_iconst (v := 0) dX4_firstDayOfAll_12 (by decide) ?_
  refine r_istore_n (lv' := [(2, .int (0 : Int32)), (1, .int v11), (0, .ref a0)]) dX4_firstDayOfAll_13 rfl (by decide) rfl ?_
  refine r_aload_n dX4_firstDayOfAll_14 2 rfl ?_
  obtain ⟨x15, e15, h⟩ := Sat_bind h
  refine r_getI fk_X4_89 rfl e15 dX4_firstDayOfAll_15 ?_
  refine r_istore_n (lv' := [(3, .int x15), (2, .int (0 : Int32)), (1, .int v11), (0, .ref a0)]) dX4_firstDayOfAll_18 rfl (by decide) rfl ?_
  refine r_sub (lv' := [(0, .ref a0), (1, .int v11), (2, .int (0 : Int32)), (3, .int x15)]) [3, 2, 1, 0] rfl ?_
  refine whl_K (s0 := (((0 : Int32), x15) : Int32 × Int32)) (RR := fun (s19 : Int32 × Int32) => Rn_X4_firstDayOfAll G (fun v μ' => v = some (.int r) ∧ μ' = μ) 19 [(0, .ref a0), (1, .int v11), (2, .int s19.1), (3, .int s19.2)] [] μ) ?_ (Sat_bindK h)
  intro s19 K19 hI19 hX19 h
  refine r_iload_n dX4_firstDayOfAll_19 3 rfl ?_
  refine r_bipush (v := 28) dX4_firstDayOfAll_20 (by decide) ?_
  refine r_icmp_ge 50 dX4_firstDayOfAll_22 (by decide) (fun c22 => ?_) (fun c22 => ?_)
  · have h := Sat_pos c22 h
    have h := hX19 _ (Sat_some h)
    refine r_iconst (v := -1) dX4_firstDayOfAll_50 (by decide) ?_
    exact r_ireturn rfl (by rw [← Sat_eq h]; exact ⟨rfl, rfl⟩) dX4_firstDayOfAll_51
  · have h := Sat_neg c22 h
    refine r_aload_n dX4_firstDayOfAll_25 0 rfl ?_
    refine r_aload_n dX4_firstDayOfAll_26 0 rfl ?_
    refine r_iload_n dX4_firstDayOfAll_27 2 rfl ?_
    refine r_iload_n dX4_firstDayOfAll_28 3 rfl ?_
    obtain ⟨x29, e29, h⟩ := Sat_bind h
    refine r_cV (t := 5) [.int s19.1, .int s19.2] [.ref a0] (m_X4_byDay a0 s19.1 s19.2 μ e29) ck_X4_byDay lk_X4_118 in_X4_byDay se_X4_byDay (kd_of e29) ⟨rfl, by decide, by decide⟩ rfl rfl (Nat.le_of_ble_eq_true rfl) ⟨by decide, by decide⟩ ⟨Nat.zero_le _, Nat.zero_le _⟩ dX4_firstDayOfAll_29 ?_
    refine r_iload_n dX4_firstDayOfAll_32 3 rfl ?_
    obtain ⟨x33, e33, h⟩ := Sat_bind h
    refine r_cV (t := 5) [.int x29, .int s19.2] [] (m_X4_byNight a0 x29 s19.2 μ e33) ck_X4_byNight lk_X4_121 in_X4_byNight se_X4_byNight (kd_of e33) ⟨rfl, by decide, by decide⟩ rfl rfl (Nat.le_of_ble_eq_true rfl) ⟨by decide, by decide⟩ ⟨Nat.zero_le _, Nat.zero_le _⟩ dX4_firstDayOfAll_33 ?_
    refine r_istore_n (lv' := [(2, .int x33), (0, .ref a0), (1, .int v11), (3, .int s19.2)]) dX4_firstDayOfAll_36 rfl (by decide) rfl ?_
    refine r_iload_n dX4_firstDayOfAll_37 0 rfl ?_
    refine r_iload_n dX4_firstDayOfAll_38 2 rfl ?_
    refine r_icmp_ne 44 dX4_firstDayOfAll_39 (by decide) (fun c39 => ?_) (fun c39 => ?_)
    · have h := Sat_neg c39 h
      obtain ⟨v44, e44, h⟩ := Sat_bind h
      refine r_iinc (j := 3) (v := v44) (lv' := [(3, .int v44), (2, .int x33), (0, .ref a0), (1, .int v11)]) dX4_firstDayOfAll_44 rfl (iinc_v e44 (by decide)) (by decide) rfl ?_
      refine r_goto 19 dX4_firstDayOfAll_47 (by decide) ?_
      exact r_sub [2, 3, 1, 0] rfl (hI19 _ (Sat_some h))
    · have h := Sat_pos c39 h
      have h := hX19 _ (Sat_some h)
      refine r_iload_n dX4_firstDayOfAll_42 3 rfl ?_
      exact r_ireturn rfl (by rw [← Sat_eq h]; exact ⟨rfl, rfl⟩) dX4_firstDayOfAll_43
theorem dX2_at_0 : decode cX2_at 0 = .ok (.iload_n 1, 1) := by decide +kernel
theorem dX2_at_1 : decode cX2_at 1 = .ok (.ifCond .lt 20, 3) := by decide +kernel
theorem dX2_at_4 : decode cX2_at 4 = .ok (.iload_n 1, 1) := by decide +kernel
theorem dX2_at_5 : decode cX2_at 5 = .ok (.aload_n 0, 1) := by decide +kernel
theorem dX2_at_6 : decode cX2_at 6 = .ok (.getfield 21, 3) := by decide +kernel
theorem dX2_at_9 : decode cX2_at 9 = .ok (.if_icmp .ge 12, 3) := by decide +kernel
theorem dX2_at_12 : decode cX2_at 12 = .ok (.iload_n 2, 1) := by decide +kernel
theorem dX2_at_13 : decode cX2_at 13 = .ok (.ifCond .lt 8, 3) := by decide +kernel
theorem dX2_at_16 : decode cX2_at 16 = .ok (.iload_n 2, 1) := by decide +kernel
theorem dX2_at_17 : decode cX2_at 17 = .ok (.iconst 4, 1) := by decide +kernel
theorem dX2_at_18 : decode cX2_at 18 = .ok (.if_icmp .lt 5, 3) := by decide +kernel
theorem dX2_at_21 : decode cX2_at 21 = .ok (.iconst (-1), 1) := by decide +kernel
theorem dX2_at_22 : decode cX2_at 22 = .ok (.ireturn, 1) := by decide +kernel
theorem dX2_at_23 : decode cX2_at 23 = .ok (.aload_n 0, 1) := by decide +kernel
theorem dX2_at_24 : decode cX2_at 24 = .ok (.getfield 17, 3) := by decide +kernel
theorem dX2_at_27 : decode cX2_at 27 = .ok (.iload_n 1, 1) := by decide +kernel
theorem dX2_at_28 : decode cX2_at 28 = .ok (.iconst 4, 1) := by decide +kernel
theorem dX2_at_29 : decode cX2_at 29 = .ok (.imul, 1) := by decide +kernel
theorem dX2_at_30 : decode cX2_at 30 = .ok (.iload_n 2, 1) := by decide +kernel
theorem dX2_at_31 : decode cX2_at 31 = .ok (.iadd, 1) := by decide +kernel
theorem dX2_at_32 : decode cX2_at 32 = .ok (.iaload, 1) := by decide +kernel
theorem dX2_at_33 : decode cX2_at 33 = .ok (.ireturn, 1) := by decide +kernel
noncomputable def f_X2_at (a0 : Nat) (l1 : Int32) (l2 : Int32) (μ : Mm) : Option Int32 :=
  if (mm_K μ a0).1 = 3 then if l1 < 0 then some (-1 : Int32) else (gf_I 3 1 a0 μ).bind fun x6 => if x6 ≤ l1 then some (-1 : Int32) else if l2 < 0 then some (-1 : Int32) else if l2 < (4 : Int32) then (gf_P 3 0 a0 μ).bind fun x24 => (ga_I x24 ((l1 * (4 : Int32)) + l2) μ).bind fun x32 => some x32 else some (-1 : Int32) else none
abbrev Rn_X2_at (G : Gv) (Q : Option Value → Mm → Prop) (pc : Nat) (lv : List (Nat × Value)) (st : List Value) (μ : Mm) : Prop := Rn G RX2 cX2_at 3 (some .int) "at" (rmd 0 0 0) (Zm G 0 0 Q) 0 0 pc lv st μ
set_option maxRecDepth 100000 in
set_option maxHeartbeats 4000000 in
theorem m_X2_at {G : Gv} (a0 : Nat) (l1 : Int32) (l2 : Int32) (μ : Mm) {r : Int32} (hx : f_X2_at a0 l1 l2 μ = some r) : Mt G yX2_at cX2_at 3 (some .int) 0 0 0 [.ref a0, .int l1, .int l2] μ (fun v μ' => v = some (.int r) ∧ μ' = μ) := by
  refine Mt.of (by decide) (Nat.le_of_ble_eq_true rfl) ?_
  show Rn_X2_at G (fun v μ' => v = some (.int r) ∧ μ' = μ) 0 [(0, .ref a0), (1, .int l1), (2, .int l2)] [] μ
  obtain ⟨_, h⟩ := Sat_ifp (show Sat (f_X2_at a0 l1 l2 μ) (fun x => x = r) from ⟨_, hx, rfl⟩)
  refine r_iload_n dX2_at_0 1 rfl ?_
  refine r_if_lt 21 dX2_at_1 (by decide) (fun c1 => ?_) (fun c1 => ?_)
  · have h := Sat_pos c1 h
    refine r_iconst (v := -1) dX2_at_21 (by decide) ?_
    exact r_ireturn rfl (by rw [← Sat_eq h]; exact ⟨rfl, rfl⟩) dX2_at_22
  · have h := Sat_neg c1 h
    refine r_iload_n dX2_at_4 1 rfl ?_
    refine r_aload_n dX2_at_5 0 rfl ?_
    obtain ⟨x6, e6, h⟩ := Sat_bind h
    refine r_getI fk_X2_21 rfl e6 dX2_at_6 ?_
    refine r_icmp_ge 21 dX2_at_9 (by decide) (fun c9 => ?_) (fun c9 => ?_)
    · have h := Sat_pos c9 h
      refine r_iconst (v := -1) dX2_at_21 (by decide) ?_
      exact r_ireturn rfl (by rw [← Sat_eq h]; exact ⟨rfl, rfl⟩) dX2_at_22
    · have h := Sat_neg c9 h
      refine r_iload_n dX2_at_12 2 rfl ?_
      refine r_if_lt 21 dX2_at_13 (by decide) (fun c13 => ?_) (fun c13 => ?_)
      · have h := Sat_pos c13 h
        refine r_iconst (v := -1) dX2_at_21 (by decide) ?_
        exact r_ireturn rfl (by rw [← Sat_eq h]; exact ⟨rfl, rfl⟩) dX2_at_22
      · have h := Sat_neg c13 h
        refine r_iload_n dX2_at_16 2 rfl ?_
        refine r_iconst (v := 4) dX2_at_17 (by decide) ?_
        refine r_icmp_lt 23 dX2_at_18 (by decide) (fun c18 => ?_) (fun c18 => ?_)
        · have h := Sat_pos c18 h
          refine r_aload_n dX2_at_23 0 rfl ?_
          obtain ⟨x24, e24, h⟩ := Sat_bind h
          refine r_getP fk_X2_17 rfl e24 dX2_at_24 ?_
          refine r_iload_n dX2_at_27 1 rfl ?_
          refine r_iconst (v := 4) dX2_at_28 (by decide) ?_
          refine r_imul dX2_at_29 ?_
          refine r_iload_n dX2_at_30 2 rfl ?_
          refine r_iadd dX2_at_31 ?_
          obtain ⟨x32, e32, h⟩ := Sat_bind h
          refine r_iaload e32 dX2_at_32 ?_
          exact r_ireturn rfl (by rw [← Sat_eq h]; exact ⟨rfl, rfl⟩) dX2_at_33
        · have h := Sat_neg c18 h
          refine r_iconst (v := -1) dX2_at_21 (by decide) ?_
          exact r_ireturn rfl (by rw [← Sat_eq h]; exact ⟨rfl, rfl⟩) dX2_at_22
theorem dX4_setFact_0 : decode cX4_setFact 0 = .ok (.aload_n 0, 1) := by decide +kernel
theorem dX4_setFact_1 : decode cX4_setFact 1 = .ok (.getfield 33, 3) := by decide +kernel
theorem dX4_setFact_4 : decode cX4_setFact 4 = .ok (.getfield 76, 3) := by decide +kernel
theorem dX4_setFact_7 : decode cX4_setFact 7 = .ok (.iload_n 1, 1) := by decide +kernel
theorem dX4_setFact_8 : decode cX4_setFact 8 = .ok (.ishr, 1) := by decide +kernel
theorem dX4_setFact_9 : decode cX4_setFact 9 = .ok (.iconst 1, 1) := by decide +kernel
theorem dX4_setFact_10 : decode cX4_setFact 10 = .ok (.iand, 1) := by decide +kernel
theorem dX4_setFact_11 : decode cX4_setFact 11 = .ok (.ifCond .eq 7, 3) := by decide +kernel
theorem dX4_setFact_14 : decode cX4_setFact 14 = .ok (.iconst 1, 1) := by decide +kernel
theorem dX4_setFact_15 : decode cX4_setFact 15 = .ok (.goto 4, 3) := by decide +kernel
theorem dX4_setFact_18 : decode cX4_setFact 18 = .ok (.iconst 0, 1) := by decide +kernel
theorem dX4_setFact_19 : decode cX4_setFact 19 = .ok (.istore 4, 2) := by decide +kernel
theorem dX4_setFact_21 : decode cX4_setFact 21 = .ok (.aload_n 0, 1) := by decide +kernel
theorem dX4_setFact_22 : decode cX4_setFact 22 = .ok (.getfield 33, 3) := by decide +kernel
theorem dX4_setFact_25 : decode cX4_setFact 25 = .ok (.getfield 79, 3) := by decide +kernel
theorem dX4_setFact_28 : decode cX4_setFact 28 = .ok (.iload_n 1, 1) := by decide +kernel
theorem dX4_setFact_29 : decode cX4_setFact 29 = .ok (.ishr, 1) := by decide +kernel
theorem dX4_setFact_30 : decode cX4_setFact 30 = .ok (.iconst 1, 1) := by decide +kernel
theorem dX4_setFact_31 : decode cX4_setFact 31 = .ok (.iand, 1) := by decide +kernel
theorem dX4_setFact_32 : decode cX4_setFact 32 = .ok (.ifCond .ne 7, 3) := by decide +kernel
theorem dX4_setFact_35 : decode cX4_setFact 35 = .ok (.iconst 1, 1) := by decide +kernel
theorem dX4_setFact_36 : decode cX4_setFact 36 = .ok (.goto 4, 3) := by decide +kernel
theorem dX4_setFact_39 : decode cX4_setFact 39 = .ok (.iconst 0, 1) := by decide +kernel
theorem dX4_setFact_40 : decode cX4_setFact 40 = .ok (.istore 5, 2) := by decide +kernel
theorem dX4_setFact_42 : decode cX4_setFact 42 = .ok (.aload_n 0, 1) := by decide +kernel
theorem dX4_setFact_43 : decode cX4_setFact 43 = .ok (.getfield 33, 3) := by decide +kernel
theorem dX4_setFact_46 : decode cX4_setFact 46 = .ok (.iload_n 1, 1) := by decide +kernel
theorem dX4_setFact_47 : decode cX4_setFact 47 = .ok (.invokevirtual 82, 3) := by decide +kernel
theorem dX4_setFact_50 : decode cX4_setFact 50 = .ok (.istore 6, 2) := by decide +kernel
theorem dX4_setFact_52 : decode cX4_setFact 52 = .ok (.aload_n 0, 1) := by decide +kernel
theorem dX4_setFact_53 : decode cX4_setFact 53 = .ok (.iload 6, 2) := by decide +kernel
theorem dX4_setFact_55 : decode cX4_setFact 55 = .ok (.ifCond .eq 18, 3) := by decide +kernel
theorem dX4_setFact_58 : decode cX4_setFact 58 = .ok (.aload_n 0, 1) := by decide +kernel
theorem dX4_setFact_59 : decode cX4_setFact 59 = .ok (.getfield 33, 3) := by decide +kernel
theorem dX4_setFact_62 : decode cX4_setFact 62 = .ok (.getfield 86, 3) := by decide +kernel
theorem dX4_setFact_65 : decode cX4_setFact 65 = .ok (.iload_n 1, 1) := by decide +kernel
theorem dX4_setFact_66 : decode cX4_setFact 66 = .ok (.iconst 1, 1) := by decide +kernel
theorem dX4_setFact_67 : decode cX4_setFact 67 = .ok (.invokevirtual 49, 3) := by decide +kernel
theorem dX4_setFact_70 : decode cX4_setFact 70 = .ok (.goto 5, 3) := by decide +kernel
theorem dX4_setFact_73 : decode cX4_setFact 73 = .ok (.bipush 28, 2) := by decide +kernel
theorem dX4_setFact_75 : decode cX4_setFact 75 = .ok (.putfield 89, 3) := by decide +kernel
theorem dX4_setFact_78 : decode cX4_setFact 78 = .ok (.aload_n 0, 1) := by decide +kernel
theorem dX4_setFact_79 : decode cX4_setFact 79 = .ok (.iload 6, 2) := by decide +kernel
theorem dX4_setFact_81 : decode cX4_setFact 81 = .ok (.ifCond .eq 20, 3) := by decide +kernel
theorem dX4_setFact_84 : decode cX4_setFact 84 = .ok (.iconst 1, 1) := by decide +kernel
theorem dX4_setFact_85 : decode cX4_setFact 85 = .ok (.aload_n 0, 1) := by decide +kernel
theorem dX4_setFact_86 : decode cX4_setFact 86 = .ok (.getfield 33, 3) := by decide +kernel
theorem dX4_setFact_89 : decode cX4_setFact 89 = .ok (.getfield 86, 3) := by decide +kernel
theorem dX4_setFact_92 : decode cX4_setFact 92 = .ok (.iload_n 1, 1) := by decide +kernel
theorem dX4_setFact_93 : decode cX4_setFact 93 = .ok (.iconst 0, 1) := by decide +kernel
theorem dX4_setFact_94 : decode cX4_setFact 94 = .ok (.invokevirtual 49, 3) := by decide +kernel
theorem dX4_setFact_97 : decode cX4_setFact 97 = .ok (.ishl, 1) := by decide +kernel
theorem dX4_setFact_98 : decode cX4_setFact 98 = .ok (.goto 4, 3) := by decide +kernel
theorem dX4_setFact_101 : decode cX4_setFact 101 = .ok (.iconst 0, 1) := by decide +kernel
theorem dX4_setFact_102 : decode cX4_setFact 102 = .ok (.putfield 92, 3) := by decide +kernel
theorem dX4_setFact_105 : decode cX4_setFact 105 = .ok (.aload_n 0, 1) := by decide +kernel
theorem dX4_setFact_106 : decode cX4_setFact 106 = .ok (.iload_n 3, 1) := by decide +kernel
theorem dX4_setFact_107 : decode cX4_setFact 107 = .ok (.putfield 95, 3) := by decide +kernel
theorem dX4_setFact_110 : decode cX4_setFact 110 = .ok (.aload_n 0, 1) := by decide +kernel
theorem dX4_setFact_111 : decode cX4_setFact 111 = .ok (.iload_n 2, 1) := by decide +kernel
theorem dX4_setFact_112 : decode cX4_setFact 112 = .ok (.iconst 1, 1) := by decide +kernel
theorem dX4_setFact_113 : decode cX4_setFact 113 = .ok (.iand, 1) := by decide +kernel
theorem dX4_setFact_114 : decode cX4_setFact 114 = .ok (.ifCond .eq 12, 3) := by decide +kernel
theorem dX4_setFact_117 : decode cX4_setFact 117 = .ok (.iload 4, 2) := by decide +kernel
theorem dX4_setFact_119 : decode cX4_setFact 119 = .ok (.ifCond .ne 7, 3) := by decide +kernel
theorem dX4_setFact_122 : decode cX4_setFact 122 = .ok (.iconst 1, 1) := by decide +kernel
theorem dX4_setFact_123 : decode cX4_setFact 123 = .ok (.goto 4, 3) := by decide +kernel
theorem dX4_setFact_126 : decode cX4_setFact 126 = .ok (.iconst 0, 1) := by decide +kernel
theorem dX4_setFact_127 : decode cX4_setFact 127 = .ok (.putfield 98, 3) := by decide +kernel
theorem dX4_setFact_130 : decode cX4_setFact 130 = .ok (.aload_n 0, 1) := by decide +kernel
theorem dX4_setFact_131 : decode cX4_setFact 131 = .ok (.iload_n 2, 1) := by decide +kernel
theorem dX4_setFact_132 : decode cX4_setFact 132 = .ok (.iconst 2, 1) := by decide +kernel
theorem dX4_setFact_133 : decode cX4_setFact 133 = .ok (.iand, 1) := by decide +kernel
theorem dX4_setFact_134 : decode cX4_setFact 134 = .ok (.ifCond .eq 12, 3) := by decide +kernel
theorem dX4_setFact_137 : decode cX4_setFact 137 = .ok (.iload 5, 2) := by decide +kernel
theorem dX4_setFact_139 : decode cX4_setFact 139 = .ok (.ifCond .eq 7, 3) := by decide +kernel
theorem dX4_setFact_142 : decode cX4_setFact 142 = .ok (.iconst 1, 1) := by decide +kernel
theorem dX4_setFact_143 : decode cX4_setFact 143 = .ok (.goto 4, 3) := by decide +kernel
theorem dX4_setFact_146 : decode cX4_setFact 146 = .ok (.iconst 0, 1) := by decide +kernel
theorem dX4_setFact_147 : decode cX4_setFact 147 = .ok (.putfield 102, 3) := by decide +kernel
theorem dX4_setFact_150 : decode cX4_setFact 150 = .ok (.aload_n 0, 1) := by decide +kernel
theorem dX4_setFact_151 : decode cX4_setFact 151 = .ok (.iload_n 2, 1) := by decide +kernel
theorem dX4_setFact_152 : decode cX4_setFact 152 = .ok (.iconst 4, 1) := by decide +kernel
theorem dX4_setFact_153 : decode cX4_setFact 153 = .ok (.iand, 1) := by decide +kernel
theorem dX4_setFact_154 : decode cX4_setFact 154 = .ok (.ifCond .eq 12, 3) := by decide +kernel
theorem dX4_setFact_157 : decode cX4_setFact 157 = .ok (.iload 4, 2) := by decide +kernel
theorem dX4_setFact_159 : decode cX4_setFact 159 = .ok (.ifCond .ne 7, 3) := by decide +kernel
theorem dX4_setFact_162 : decode cX4_setFact 162 = .ok (.iconst 1, 1) := by decide +kernel
theorem dX4_setFact_163 : decode cX4_setFact 163 = .ok (.goto 4, 3) := by decide +kernel
theorem dX4_setFact_166 : decode cX4_setFact 166 = .ok (.iconst 0, 1) := by decide +kernel
theorem dX4_setFact_167 : decode cX4_setFact 167 = .ok (.putfield 105, 3) := by decide +kernel
theorem dX4_setFact_170 : decode cX4_setFact 170 = .ok (.return_, 1) := by decide +kernel
noncomputable def f_X4_setFact_J167  (k0 : Nat) (k1 : Int32) (μ : Mm) : Option Mm :=
  (pf_Z 5 13 k0 k1 μ).bind fun μ167 => some μ167
noncomputable def f_X4_setFact_J166  (k0 : Nat) (μ : Mm) : Option Mm :=
  f_X4_setFact_J167 k0 (0 : Int32) μ
noncomputable def f_X4_setFact_J147 (a0 : Nat) (l2 : Int32) (l4 : Int32) (k0 : Nat) (k1 : Int32) (μ : Mm) : Option Mm :=
  (pf_Z 5 12 k0 k1 μ).bind fun μ147 => if (l2 &&& (4 : Int32)) = 0 then f_X4_setFact_J166 a0 μ147 else if l4 = 0 then f_X4_setFact_J167 a0 (1 : Int32) μ147 else f_X4_setFact_J166 a0 μ147
noncomputable def f_X4_setFact_J146 (a0 : Nat) (l2 : Int32) (l4 : Int32) (k0 : Nat) (μ : Mm) : Option Mm :=
  f_X4_setFact_J147 a0 l2 l4 k0 (0 : Int32) μ
noncomputable def f_X4_setFact_J127 (a0 : Nat) (l2 : Int32) (l4 : Int32) (l5 : Int32) (k0 : Nat) (k1 : Int32) (μ : Mm) : Option Mm :=
  (pf_Z 5 11 k0 k1 μ).bind fun μ127 => if (l2 &&& (2 : Int32)) = 0 then f_X4_setFact_J146 a0 l2 l4 a0 μ127 else if l5 = 0 then f_X4_setFact_J146 a0 l2 l4 a0 μ127 else f_X4_setFact_J147 a0 l2 l4 a0 (1 : Int32) μ127
noncomputable def f_X4_setFact_J126 (a0 : Nat) (l2 : Int32) (l4 : Int32) (l5 : Int32) (k0 : Nat) (μ : Mm) : Option Mm :=
  f_X4_setFact_J127 a0 l2 l4 l5 k0 (0 : Int32) μ
noncomputable def f_X4_setFact_J102 (a0 : Nat) (l2 : Int32) (l3 : Int32) (l4 : Int32) (l5 : Int32) (k0 : Nat) (k1 : Int32) (μ : Mm) : Option Mm :=
  (pf_I 5 9 k0 k1 μ).bind fun μ102 => (pf_I 5 10 a0 l3 μ102).bind fun μ107 => if (l2 &&& (1 : Int32)) = 0 then f_X4_setFact_J126 a0 l2 l4 l5 a0 μ107 else if l4 = 0 then f_X4_setFact_J127 a0 l2 l4 l5 a0 (1 : Int32) μ107 else f_X4_setFact_J126 a0 l2 l4 l5 a0 μ107
noncomputable def f_X4_setFact_J75 (a0 : Nat) (l1 : Int32) (l2 : Int32) (l3 : Int32) (l4 : Int32) (l5 : Int32) (l6 : Int32) (k0 : Nat) (k1 : Int32) (μ : Mm) : Option Mm :=
  (pf_I 5 8 k0 k1 μ).bind fun μ75 => if l6 = 0 then f_X4_setFact_J102 a0 l2 l3 l4 l5 a0 (0 : Int32) μ75 else (gf_P 5 7 a0 μ75).bind fun x86 => (gf_P 8 3 x86 μ75).bind fun x89 => (f_X2_at x89 l1 (0 : Int32) μ75).bind fun x94 => f_X4_setFact_J102 a0 l2 l3 l4 l5 a0 ((1 : Int32) <<< (x94 &&& 31)) μ75
noncomputable def f_X4_setFact_J40 (a0 : Nat) (l1 : Int32) (l2 : Int32) (l3 : Int32) (l4 : Int32) (k0 : Int32) (μ : Mm) : Option Mm :=
  (gf_P 5 7 a0 μ).bind fun x43 => (f_X7_isFact x43 l1 μ).bind fun x47 => if x47 = 0 then f_X4_setFact_J75 a0 l1 l2 l3 l4 k0 x47 a0 (28 : Int32) μ else (gf_P 5 7 a0 μ).bind fun x59 => (gf_P 8 3 x59 μ).bind fun x62 => (f_X2_at x62 l1 (1 : Int32) μ).bind fun x67 => f_X4_setFact_J75 a0 l1 l2 l3 l4 k0 x47 a0 x67 μ
noncomputable def f_X4_setFact_J19 (a0 : Nat) (l1 : Int32) (l2 : Int32) (l3 : Int32) (k0 : Int32) (μ : Mm) : Option Mm :=
  (gf_P 5 7 a0 μ).bind fun x22 => (gf_I 8 13 x22 μ).bind fun x25 => if ((x25 >>> (l1 &&& 31)) &&& (1 : Int32)) = 0 then f_X4_setFact_J40 a0 l1 l2 l3 k0 (1 : Int32) μ else f_X4_setFact_J40 a0 l1 l2 l3 k0 (0 : Int32) μ
noncomputable def f_X4_setFact (a0 : Nat) (l1 : Int32) (l2 : Int32) (l3 : Int32) (μ : Mm) : Option Mm :=
  if (mm_K μ a0).1 = 5 then (gf_P 5 7 a0 μ).bind fun x1 => (gf_I 8 14 x1 μ).bind fun x4 => if ((x4 >>> (l1 &&& 31)) &&& (1 : Int32)) = 0 then f_X4_setFact_J19 a0 l1 l2 l3 (0 : Int32) μ else f_X4_setFact_J19 a0 l1 l2 l3 (1 : Int32) μ else none
abbrev Rn_X4_setFact (G : Gv) (Q : Option Value → Mm → Prop) (pc : Nat) (lv : List (Nat × Value)) (st : List Value) (μ : Mm) : Prop := Rn G RX4 cX4_setFact 7 none "setFact" (rmd 1 0 0) (Zm G 0 0 Q) 0 0 pc lv st μ
set_option maxRecDepth 100000 in
set_option maxHeartbeats 4000000 in
theorem m_X4_setFact {G : Gv} (a0 : Nat) (l1 : Int32) (l2 : Int32) (l3 : Int32) (μ : Mm) {r : Mm} (hx : f_X4_setFact a0 l1 l2 l3 μ = some r) : Mt G yX4_setFact cX4_setFact 7 none 1 0 0 [.ref a0, .int l1, .int l2, .int l3] μ (fun v μ' => v = none ∧ μ' = r) := by
  refine Mt.of (by decide) (Nat.le_of_ble_eq_true rfl) ?_
  show Rn_X4_setFact G (fun v μ' => v = none ∧ μ' = r) 0 [(0, .ref a0), (1, .int l1), (2, .int l2), (3, .int l3)] [] μ
  obtain ⟨_, h⟩ := Sat_ifp (show Sat (f_X4_setFact a0 l1 l2 l3 μ) (fun x => x = r) from ⟨_, hx, rfl⟩)
  have J167 : ∀ (k0_167 : Nat) (k1_167 : Int32) (μ_167 : Mm), Sat (f_X4_setFact_J167 k0_167 k1_167 μ_167) (fun x => x = r) → Rn_X4_setFact G (fun v μ' => v = none ∧ μ' = r) 167 [] [.int k1_167, .ref k0_167] μ_167 := by
    intro k0_167 k1_167 μ_167 h
    obtain ⟨μ167, e167, h⟩ := Sat_bind h
    refine r_putZ fk_X4_105 rfl rfl e167 dX4_setFact_167 ?_
    exact r_vreturn rfl (by rw [← Sat_eq h]; exact ⟨rfl, rfl⟩) dX4_setFact_170
  have J166 : ∀ (k0_166 : Nat) (μ_166 : Mm), Sat (f_X4_setFact_J166 k0_166 μ_166) (fun x => x = r) → Rn_X4_setFact G (fun v μ' => v = none ∧ μ' = r) 166 [] [.ref k0_166] μ_166 := by
    intro k0_166 μ_166 h
    refine r_iconst (v := 0) dX4_setFact_166 (by decide) ?_
    exact r_sub [] rfl (J167 k0_166 (0 : Int32) μ_166 h)
  have J147 : ∀ (a0_147 : Nat) (l2_147 : Int32) (l4_147 : Int32) (k0_147 : Nat) (k1_147 : Int32) (μ_147 : Mm), Sat (f_X4_setFact_J147 a0_147 l2_147 l4_147 k0_147 k1_147 μ_147) (fun x => x = r) → Rn_X4_setFact G (fun v μ' => v = none ∧ μ' = r) 147 [(0, .ref a0_147), (2, .int l2_147), (4, .int l4_147)] [.int k1_147, .ref k0_147] μ_147 := by
    intro a0_147 l2_147 l4_147 k0_147 k1_147 μ_147 h
    obtain ⟨μ147, e147, h⟩ := Sat_bind h
    refine r_putZ fk_X4_102 rfl rfl e147 dX4_setFact_147 ?_
    refine r_aload_n dX4_setFact_150 0 rfl ?_
    refine r_iload_n dX4_setFact_151 1 rfl ?_
    refine r_iconst (v := 4) dX4_setFact_152 (by decide) ?_
    refine r_iand dX4_setFact_153 ?_
    refine r_if_eq 166 dX4_setFact_154 (by decide) (fun c154 => ?_) (fun c154 => ?_)
    · have h := Sat_pos c154 h
      exact r_sub [] rfl (J166 a0_147 μ147 h)
    · have h := Sat_neg c154 h
      refine r_iload dX4_setFact_157 2 rfl ?_
      refine r_if_ne 166 dX4_setFact_159 (by decide) (fun c159 => ?_) (fun c159 => ?_)
      · have h := Sat_neg c159 h
        exact r_sub [] rfl (J166 a0_147 μ147 h)
      · have h := Sat_pos c159 h
        refine r_iconst (v := 1) dX4_setFact_162 (by decide) ?_
        refine r_goto 167 dX4_setFact_163 (by decide) ?_
        exact r_sub [] rfl (J167 a0_147 (1 : Int32) μ147 h)
  have J146 : ∀ (a0_146 : Nat) (l2_146 : Int32) (l4_146 : Int32) (k0_146 : Nat) (μ_146 : Mm), Sat (f_X4_setFact_J146 a0_146 l2_146 l4_146 k0_146 μ_146) (fun x => x = r) → Rn_X4_setFact G (fun v μ' => v = none ∧ μ' = r) 146 [(0, .ref a0_146), (2, .int l2_146), (4, .int l4_146)] [.ref k0_146] μ_146 := by
    intro a0_146 l2_146 l4_146 k0_146 μ_146 h
    refine r_iconst (v := 0) dX4_setFact_146 (by decide) ?_
    exact r_sub [0, 1, 2] rfl (J147 a0_146 l2_146 l4_146 k0_146 (0 : Int32) μ_146 h)
  have J127 : ∀ (a0_127 : Nat) (l2_127 : Int32) (l4_127 : Int32) (l5_127 : Int32) (k0_127 : Nat) (k1_127 : Int32) (μ_127 : Mm), Sat (f_X4_setFact_J127 a0_127 l2_127 l4_127 l5_127 k0_127 k1_127 μ_127) (fun x => x = r) → Rn_X4_setFact G (fun v μ' => v = none ∧ μ' = r) 127 [(0, .ref a0_127), (2, .int l2_127), (4, .int l4_127), (5, .int l5_127)] [.int k1_127, .ref k0_127] μ_127 := by
    intro a0_127 l2_127 l4_127 l5_127 k0_127 k1_127 μ_127 h
    obtain ⟨μ127, e127, h⟩ := Sat_bind h
    refine r_putZ fk_X4_98 rfl rfl e127 dX4_setFact_127 ?_
    refine r_aload_n dX4_setFact_130 0 rfl ?_
    refine r_iload_n dX4_setFact_131 1 rfl ?_
    refine r_iconst (v := 2) dX4_setFact_132 (by decide) ?_
    refine r_iand dX4_setFact_133 ?_
    refine r_if_eq 146 dX4_setFact_134 (by decide) (fun c134 => ?_) (fun c134 => ?_)
    · have h := Sat_pos c134 h
      exact r_sub [0, 1, 2] rfl (J146 a0_127 l2_127 l4_127 a0_127 μ127 h)
    · have h := Sat_neg c134 h
      refine r_iload dX4_setFact_137 3 rfl ?_
      refine r_if_eq 146 dX4_setFact_139 (by decide) (fun c139 => ?_) (fun c139 => ?_)
      · have h := Sat_pos c139 h
        exact r_sub [0, 1, 2] rfl (J146 a0_127 l2_127 l4_127 a0_127 μ127 h)
      · have h := Sat_neg c139 h
        refine r_iconst (v := 1) dX4_setFact_142 (by decide) ?_
        refine r_goto 147 dX4_setFact_143 (by decide) ?_
        exact r_sub [0, 1, 2] rfl (J147 a0_127 l2_127 l4_127 a0_127 (1 : Int32) μ127 h)
  have J126 : ∀ (a0_126 : Nat) (l2_126 : Int32) (l4_126 : Int32) (l5_126 : Int32) (k0_126 : Nat) (μ_126 : Mm), Sat (f_X4_setFact_J126 a0_126 l2_126 l4_126 l5_126 k0_126 μ_126) (fun x => x = r) → Rn_X4_setFact G (fun v μ' => v = none ∧ μ' = r) 126 [(0, .ref a0_126), (2, .int l2_126), (4, .int l4_126), (5, .int l5_126)] [.ref k0_126] μ_126 := by
    intro a0_126 l2_126 l4_126 l5_126 k0_126 μ_126 h
    refine r_iconst (v := 0) dX4_setFact_126 (by decide) ?_
    exact r_sub [0, 1, 2, 3] rfl (J127 a0_126 l2_126 l4_126 l5_126 k0_126 (0 : Int32) μ_126 h)
  have J102 : ∀ (a0_102 : Nat) (l2_102 : Int32) (l3_102 : Int32) (l4_102 : Int32) (l5_102 : Int32) (k0_102 : Nat) (k1_102 : Int32) (μ_102 : Mm), Sat (f_X4_setFact_J102 a0_102 l2_102 l3_102 l4_102 l5_102 k0_102 k1_102 μ_102) (fun x => x = r) → Rn_X4_setFact G (fun v μ' => v = none ∧ μ' = r) 102 [(0, .ref a0_102), (2, .int l2_102), (3, .int l3_102), (4, .int l4_102), (5, .int l5_102)] [.int k1_102, .ref k0_102] μ_102 := by
    intro a0_102 l2_102 l3_102 l4_102 l5_102 k0_102 k1_102 μ_102 h
    obtain ⟨μ102, e102, h⟩ := Sat_bind h
    refine r_putI fk_X4_92 rfl rfl e102 dX4_setFact_102 ?_
    refine r_aload_n dX4_setFact_105 0 rfl ?_
    refine r_iload_n dX4_setFact_106 2 rfl ?_
    obtain ⟨μ107, e107, h⟩ := Sat_bind h
    refine r_putI fk_X4_95 rfl rfl e107 dX4_setFact_107 ?_
    refine r_aload_n dX4_setFact_110 0 rfl ?_
    refine r_iload_n dX4_setFact_111 1 rfl ?_
    refine r_iconst (v := 1) dX4_setFact_112 (by decide) ?_
    refine r_iand dX4_setFact_113 ?_
    refine r_if_eq 126 dX4_setFact_114 (by decide) (fun c114 => ?_) (fun c114 => ?_)
    · have h := Sat_pos c114 h
      exact r_sub [0, 1, 3, 4] rfl (J126 a0_102 l2_102 l4_102 l5_102 a0_102 μ107 h)
    · have h := Sat_neg c114 h
      refine r_iload dX4_setFact_117 3 rfl ?_
      refine r_if_ne 126 dX4_setFact_119 (by decide) (fun c119 => ?_) (fun c119 => ?_)
      · have h := Sat_neg c119 h
        exact r_sub [0, 1, 3, 4] rfl (J126 a0_102 l2_102 l4_102 l5_102 a0_102 μ107 h)
      · have h := Sat_pos c119 h
        refine r_iconst (v := 1) dX4_setFact_122 (by decide) ?_
        refine r_goto 127 dX4_setFact_123 (by decide) ?_
        exact r_sub [0, 1, 3, 4] rfl (J127 a0_102 l2_102 l4_102 l5_102 a0_102 (1 : Int32) μ107 h)
  have J75 : ∀ (a0_75 : Nat) (l1_75 : Int32) (l2_75 : Int32) (l3_75 : Int32) (l4_75 : Int32) (l5_75 : Int32) (l6_75 : Int32) (k0_75 : Nat) (k1_75 : Int32) (μ_75 : Mm), Sat (f_X4_setFact_J75 a0_75 l1_75 l2_75 l3_75 l4_75 l5_75 l6_75 k0_75 k1_75 μ_75) (fun x => x = r) → Rn_X4_setFact G (fun v μ' => v = none ∧ μ' = r) 75 [(0, .ref a0_75), (1, .int l1_75), (2, .int l2_75), (3, .int l3_75), (4, .int l4_75), (5, .int l5_75), (6, .int l6_75)] [.int k1_75, .ref k0_75] μ_75 := by
    intro a0_75 l1_75 l2_75 l3_75 l4_75 l5_75 l6_75 k0_75 k1_75 μ_75 h
    obtain ⟨μ75, e75, h⟩ := Sat_bind h
    refine r_putI fk_X4_89 rfl rfl e75 dX4_setFact_75 ?_
    refine r_aload_n dX4_setFact_78 0 rfl ?_
    refine r_iload dX4_setFact_79 6 rfl ?_
    refine r_if_eq 101 dX4_setFact_81 (by decide) (fun c81 => ?_) (fun c81 => ?_)
    · have h := Sat_pos c81 h
      refine r_iconst (v := 0) dX4_setFact_101 (by decide) ?_
      exact r_sub [0, 2, 3, 4, 5] rfl (J102 a0_75 l2_75 l3_75 l4_75 l5_75 a0_75 (0 : Int32) μ75 h)
    · have h := Sat_neg c81 h
      refine r_iconst (v := 1) dX4_setFact_84 (by decide) ?_
      refine r_aload_n dX4_setFact_85 0 rfl ?_
      obtain ⟨x86, e86, h⟩ := Sat_bind h
      refine r_getP fk_X4_33 rfl e86 dX4_setFact_86 ?_
      obtain ⟨x89, e89, h⟩ := Sat_bind h
      refine r_getP fk_X4_86 rfl e89 dX4_setFact_89 ?_
      refine r_iload_n dX4_setFact_92 1 rfl ?_
      refine r_iconst (v := 0) dX4_setFact_93 (by decide) ?_
      obtain ⟨x94, e94, h⟩ := Sat_bind h
      refine r_cV (t := 3) [.int l1_75, .int (0 : Int32)] [.int (1 : Int32), .ref a0_75] (m_X2_at x89 l1_75 (0 : Int32) μ75 e94) ck_X2_at lk_X4_49 in_X2_at se_X2_at (kd_of e94) ⟨rfl, by decide, by decide⟩ rfl rfl (Nat.le_of_ble_eq_true rfl) ⟨by decide, by decide⟩ ⟨Nat.zero_le _, Nat.zero_le _⟩ dX4_setFact_94 ?_
      refine r_ishl dX4_setFact_97 ?_
      refine r_goto 102 dX4_setFact_98 (by decide) ?_
      exact r_sub [0, 2, 3, 4, 5] rfl (J102 a0_75 l2_75 l3_75 l4_75 l5_75 a0_75 ((1 : Int32) <<< (x94 &&& 31)) μ75 h)
  have J40 : ∀ (a0_40 : Nat) (l1_40 : Int32) (l2_40 : Int32) (l3_40 : Int32) (l4_40 : Int32) (k0_40 : Int32) (μ_40 : Mm), Sat (f_X4_setFact_J40 a0_40 l1_40 l2_40 l3_40 l4_40 k0_40 μ_40) (fun x => x = r) → Rn_X4_setFact G (fun v μ' => v = none ∧ μ' = r) 40 [(0, .ref a0_40), (1, .int l1_40), (2, .int l2_40), (3, .int l3_40), (4, .int l4_40)] [.int k0_40] μ_40 := by
    intro a0_40 l1_40 l2_40 l3_40 l4_40 k0_40 μ_40 h
    refine r_istore (lv' := [(5, .int k0_40), (0, .ref a0_40), (1, .int l1_40), (2, .int l2_40), (3, .int l3_40), (4, .int l4_40)]) dX4_setFact_40 (by decide) rfl ?_
    refine r_aload_n dX4_setFact_42 1 rfl ?_
    obtain ⟨x43, e43, h⟩ := Sat_bind h
    refine r_getP fk_X4_33 rfl e43 dX4_setFact_43 ?_
    refine r_iload_n dX4_setFact_46 2 rfl ?_
    obtain ⟨x47, e47, h⟩ := Sat_bind h
    refine r_cV (t := 8) [.int l1_40] [] (m_X7_isFact x43 l1_40 μ_40 e47) ck_X7_isFact lk_X4_82 in_X7_isFact se_X7_isFact (kd_of e47) ⟨rfl, by decide, by decide⟩ rfl rfl (Nat.le_of_ble_eq_true rfl) ⟨by decide, by decide⟩ ⟨Nat.zero_le _, Nat.zero_le _⟩ dX4_setFact_47 ?_
    refine r_istore (lv' := [(6, .int x47), (5, .int k0_40), (0, .ref a0_40), (1, .int l1_40), (2, .int l2_40), (3, .int l3_40), (4, .int l4_40)]) dX4_setFact_50 (by decide) rfl ?_
    refine r_aload_n dX4_setFact_52 2 rfl ?_
    refine r_iload dX4_setFact_53 0 rfl ?_
    refine r_if_eq 73 dX4_setFact_55 (by decide) (fun c55 => ?_) (fun c55 => ?_)
    · have h := Sat_pos c55 h
      refine r_bipush (v := 28) dX4_setFact_73 (by decide) ?_
      exact r_sub [2, 3, 4, 5, 6, 1, 0] rfl (J75 a0_40 l1_40 l2_40 l3_40 l4_40 k0_40 x47 a0_40 (28 : Int32) μ_40 h)
    · have h := Sat_neg c55 h
      refine r_aload_n dX4_setFact_58 2 rfl ?_
      obtain ⟨x59, e59, h⟩ := Sat_bind h
      refine r_getP fk_X4_33 rfl e59 dX4_setFact_59 ?_
      obtain ⟨x62, e62, h⟩ := Sat_bind h
      refine r_getP fk_X4_86 rfl e62 dX4_setFact_62 ?_
      refine r_iload_n dX4_setFact_65 3 rfl ?_
      refine r_iconst (v := 1) dX4_setFact_66 (by decide) ?_
      obtain ⟨x67, e67, h⟩ := Sat_bind h
      refine r_cV (t := 3) [.int l1_40, .int (1 : Int32)] [.ref a0_40] (m_X2_at x62 l1_40 (1 : Int32) μ_40 e67) ck_X2_at lk_X4_49 in_X2_at se_X2_at (kd_of e67) ⟨rfl, by decide, by decide⟩ rfl rfl (Nat.le_of_ble_eq_true rfl) ⟨by decide, by decide⟩ ⟨Nat.zero_le _, Nat.zero_le _⟩ dX4_setFact_67 ?_
      refine r_goto 75 dX4_setFact_70 (by decide) ?_
      exact r_sub [2, 3, 4, 5, 6, 1, 0] rfl (J75 a0_40 l1_40 l2_40 l3_40 l4_40 k0_40 x47 a0_40 x67 μ_40 h)
  have J19 : ∀ (a0_19 : Nat) (l1_19 : Int32) (l2_19 : Int32) (l3_19 : Int32) (k0_19 : Int32) (μ_19 : Mm), Sat (f_X4_setFact_J19 a0_19 l1_19 l2_19 l3_19 k0_19 μ_19) (fun x => x = r) → Rn_X4_setFact G (fun v μ' => v = none ∧ μ' = r) 19 [(0, .ref a0_19), (1, .int l1_19), (2, .int l2_19), (3, .int l3_19)] [.int k0_19] μ_19 := by
    intro a0_19 l1_19 l2_19 l3_19 k0_19 μ_19 h
    refine r_istore (lv' := [(4, .int k0_19), (0, .ref a0_19), (1, .int l1_19), (2, .int l2_19), (3, .int l3_19)]) dX4_setFact_19 (by decide) rfl ?_
    refine r_aload_n dX4_setFact_21 1 rfl ?_
    obtain ⟨x22, e22, h⟩ := Sat_bind h
    refine r_getP fk_X4_33 rfl e22 dX4_setFact_22 ?_
    obtain ⟨x25, e25, h⟩ := Sat_bind h
    refine r_getI fk_X4_79 rfl e25 dX4_setFact_25 ?_
    refine r_iload_n dX4_setFact_28 2 rfl ?_
    refine r_ishr dX4_setFact_29 ?_
    refine r_iconst (v := 1) dX4_setFact_30 (by decide) ?_
    refine r_iand dX4_setFact_31 ?_
    refine r_if_ne 39 dX4_setFact_32 (by decide) (fun c32 => ?_) (fun c32 => ?_)
    · have h := Sat_neg c32 h
      refine r_iconst (v := 0) dX4_setFact_39 (by decide) ?_
      exact r_sub [1, 2, 3, 4, 0] rfl (J40 a0_19 l1_19 l2_19 l3_19 k0_19 (0 : Int32) μ_19 h)
    · have h := Sat_pos c32 h
      refine r_iconst (v := 1) dX4_setFact_35 (by decide) ?_
      refine r_goto 40 dX4_setFact_36 (by decide) ?_
      exact r_sub [1, 2, 3, 4, 0] rfl (J40 a0_19 l1_19 l2_19 l3_19 k0_19 (1 : Int32) μ_19 h)
  refine r_aload_n dX4_setFact_0 0 rfl ?_
  obtain ⟨x1, e1, h⟩ := Sat_bind h
  refine r_getP fk_X4_33 rfl e1 dX4_setFact_1 ?_
  obtain ⟨x4, e4, h⟩ := Sat_bind h
  refine r_getI fk_X4_76 rfl e4 dX4_setFact_4 ?_
  refine r_iload_n dX4_setFact_7 1 rfl ?_
  refine r_ishr dX4_setFact_8 ?_
  refine r_iconst (v := 1) dX4_setFact_9 (by decide) ?_
  refine r_iand dX4_setFact_10 ?_
  refine r_if_eq 18 dX4_setFact_11 (by decide) (fun c11 => ?_) (fun c11 => ?_)
  · have h := Sat_pos c11 h
    refine r_iconst (v := 0) dX4_setFact_18 (by decide) ?_
    exact r_sub [0, 1, 2, 3] rfl (J19 a0 l1 l2 l3 (0 : Int32) μ h)
  · have h := Sat_neg c11 h
    refine r_iconst (v := 1) dX4_setFact_14 (by decide) ?_
    refine r_goto 19 dX4_setFact_15 (by decide) ?_
    exact r_sub [0, 1, 2, 3] rfl (J19 a0 l1 l2 l3 (1 : Int32) μ h)
theorem dX9_dreamOf_0 : decode cX9_dreamOf 0 = .ok (.iload_n 0, 1) := by decide +kernel
theorem dX9_dreamOf_1 : decode cX9_dreamOf 1 = .ok (.iconst 4, 1) := by decide +kernel
theorem dX9_dreamOf_2 : decode cX9_dreamOf 2 = .ok (.iload_n 1, 1) := by decide +kernel
theorem dX9_dreamOf_3 : decode cX9_dreamOf 3 = .ok (.imul, 1) := by decide +kernel
theorem dX9_dreamOf_4 : decode cX9_dreamOf 4 = .ok (.iushr, 1) := by decide +kernel
theorem dX9_dreamOf_5 : decode cX9_dreamOf 5 = .ok (.bipush 15, 2) := by decide +kernel
theorem dX9_dreamOf_7 : decode cX9_dreamOf 7 = .ok (.iand, 1) := by decide +kernel
theorem dX9_dreamOf_8 : decode cX9_dreamOf 8 = .ok (.istore_n 2, 1) := by decide +kernel
theorem dX9_dreamOf_9 : decode cX9_dreamOf 9 = .ok (.iload_n 2, 1) := by decide +kernel
theorem dX9_dreamOf_10 : decode cX9_dreamOf 10 = .ok (.bipush 15, 2) := by decide +kernel
theorem dX9_dreamOf_12 : decode cX9_dreamOf 12 = .ok (.if_icmp .ne 7, 3) := by decide +kernel
theorem dX9_dreamOf_15 : decode cX9_dreamOf 15 = .ok (.iconst (-1), 1) := by decide +kernel
theorem dX9_dreamOf_16 : decode cX9_dreamOf 16 = .ok (.goto 4, 3) := by decide +kernel
theorem dX9_dreamOf_19 : decode cX9_dreamOf 19 = .ok (.iload_n 2, 1) := by decide +kernel
theorem dX9_dreamOf_20 : decode cX9_dreamOf 20 = .ok (.ireturn, 1) := by decide +kernel
noncomputable def f_X9_dreamOf (l0 : Int32) (l1 : Int32) (μ : Mm) : Option Int32 :=
  (some (((l0.toUInt32 >>> (((4 : Int32) * l1).toUInt32 &&& Int32.toUInt32 31)).toInt32) &&& (15 : Int32))).bind fun v8 => if v8 = (15 : Int32) then some (-1 : Int32) else some v8
abbrev Rn_X9_dreamOf (G : Gv) (Q : Option Value → Mm → Prop) (pc : Nat) (lv : List (Nat × Value)) (st : List Value) (μ : Mm) : Prop := Rn G RX9 cX9_dreamOf 3 (some .int) "dreamOf" (rmd 0 0 0) (Zm G 0 0 Q) 0 0 pc lv st μ
set_option maxRecDepth 100000 in
set_option maxHeartbeats 4000000 in
theorem m_X9_dreamOf {G : Gv} (l0 : Int32) (l1 : Int32) (μ : Mm) {r : Int32} (hx : f_X9_dreamOf l0 l1 μ = some r) : Mt G yX9_dreamOf cX9_dreamOf 3 (some .int) 0 0 0 [.int l0, .int l1] μ (fun v μ' => v = some (.int r) ∧ μ' = μ) := by
  refine Mt.of (by decide) (Nat.le_of_ble_eq_true rfl) ?_
  show Rn_X9_dreamOf G (fun v μ' => v = some (.int r) ∧ μ' = μ) 0 [(0, .int l0), (1, .int l1)] [] μ
  have h : Sat (f_X9_dreamOf l0 l1 μ) (fun x => x = r) := ⟨_, hx, rfl⟩
  refine r_iload_n dX9_dreamOf_0 0 rfl ?_
  refine r_iconst (v := 4) dX9_dreamOf_1 (by decide) ?_
  refine r_iload_n dX9_dreamOf_2 1 rfl ?_
  refine r_imul dX9_dreamOf_3 ?_
  refine r_iushr dX9_dreamOf_4 ?_
  refine r_bipush (v := 15) dX9_dreamOf_5 (by decide) ?_
  refine r_iand dX9_dreamOf_7 ?_
  obtain ⟨v8, e8, h⟩ := Sat_bind h
  refine r_topi (Option.some.inj e8) ?_
  refine r_istore_n (lv' := [(2, .int v8), (0, .int l0), (1, .int l1)]) dX9_dreamOf_8 rfl (by decide) rfl ?_
  refine r_iload_n dX9_dreamOf_9 0 rfl ?_
  refine r_bipush (v := 15) dX9_dreamOf_10 (by decide) ?_
  refine r_icmp_ne 19 dX9_dreamOf_12 (by decide) (fun c12 => ?_) (fun c12 => ?_)
  · have h := Sat_neg c12 h
    refine r_iload_n dX9_dreamOf_19 0 rfl ?_
    exact r_ireturn rfl (by rw [← Sat_eq h]; exact ⟨rfl, rfl⟩) dX9_dreamOf_20
  · have h := Sat_pos c12 h
    refine r_iconst (v := -1) dX9_dreamOf_15 (by decide) ?_
    refine r_goto 20 dX9_dreamOf_16 (by decide) ?_
    exact r_ireturn rfl (by rw [← Sat_eq h]; exact ⟨rfl, rfl⟩) dX9_dreamOf_20
theorem dX4_setTurning_0 : decode cX4_setTurning 0 = .ok (.aload_n 0, 1) := by decide +kernel
theorem dX4_setTurning_1 : decode cX4_setTurning 1 = .ok (.getfield 24, 3) := by decide +kernel
theorem dX4_setTurning_4 : decode cX4_setTurning 4 = .ok (.iconst 0, 1) := by decide +kernel
theorem dX4_setTurning_5 : decode cX4_setTurning 5 = .ok (.invokestatic 65, 3) := by decide +kernel
theorem dX4_setTurning_8 : decode cX4_setTurning 8 = .ok (.iconst 0, 1) := by decide +kernel
theorem dX4_setTurning_9 : decode cX4_setTurning 9 = .ok (.istore_n 2, 1) := by decide +kernel
theorem dX4_setTurning_10 : decode cX4_setTurning 10 = .ok (.iload_n 2, 1) := by decide +kernel
theorem dX4_setTurning_11 : decode cX4_setTurning 11 = .ok (.bipush 8, 2) := by decide +kernel
theorem dX4_setTurning_13 : decode cX4_setTurning 13 = .ok (.if_icmp .ge 41, 3) := by decide +kernel
theorem dX4_setTurning_16 : decode cX4_setTurning 16 = .ok (.iload_n 1, 1) := by decide +kernel
theorem dX4_setTurning_17 : decode cX4_setTurning 17 = .ok (.iload_n 2, 1) := by decide +kernel
theorem dX4_setTurning_18 : decode cX4_setTurning 18 = .ok (.invokestatic 71, 3) := by decide +kernel
theorem dX4_setTurning_21 : decode cX4_setTurning 21 = .ok (.istore_n 3, 1) := by decide +kernel
theorem dX4_setTurning_22 : decode cX4_setTurning 22 = .ok (.aload_n 0, 1) := by decide +kernel
theorem dX4_setTurning_23 : decode cX4_setTurning 23 = .ok (.getfield 21, 3) := by decide +kernel
theorem dX4_setTurning_26 : decode cX4_setTurning 26 = .ok (.iload_n 2, 1) := by decide +kernel
theorem dX4_setTurning_27 : decode cX4_setTurning 27 = .ok (.iload_n 3, 1) := by decide +kernel
theorem dX4_setTurning_28 : decode cX4_setTurning 28 = .ok (.iastore, 1) := by decide +kernel
theorem dX4_setTurning_29 : decode cX4_setTurning 29 = .ok (.iload_n 3, 1) := by decide +kernel
theorem dX4_setTurning_30 : decode cX4_setTurning 30 = .ok (.ifCond .lt 18, 3) := by decide +kernel
theorem dX4_setTurning_33 : decode cX4_setTurning 33 = .ok (.iload_n 3, 1) := by decide +kernel
theorem dX4_setTurning_34 : decode cX4_setTurning 34 = .ok (.bipush 8, 2) := by decide +kernel
theorem dX4_setTurning_36 : decode cX4_setTurning 36 = .ok (.if_icmp .ge 12, 3) := by decide +kernel
theorem dX4_setTurning_39 : decode cX4_setTurning 39 = .ok (.aload_n 0, 1) := by decide +kernel
theorem dX4_setTurning_40 : decode cX4_setTurning 40 = .ok (.getfield 24, 3) := by decide +kernel
theorem dX4_setTurning_43 : decode cX4_setTurning 43 = .ok (.iload_n 3, 1) := by decide +kernel
theorem dX4_setTurning_44 : decode cX4_setTurning 44 = .ok (.iconst 1, 1) := by decide +kernel
theorem dX4_setTurning_45 : decode cX4_setTurning 45 = .ok (.iload_n 2, 1) := by decide +kernel
theorem dX4_setTurning_46 : decode cX4_setTurning 46 = .ok (.ishl, 1) := by decide +kernel
theorem dX4_setTurning_47 : decode cX4_setTurning 47 = .ok (.iastore, 1) := by decide +kernel
theorem dX4_setTurning_48 : decode cX4_setTurning 48 = .ok (.iinc 2 1, 3) := by decide +kernel
theorem dX4_setTurning_51 : decode cX4_setTurning 51 = .ok (.goto (-41), 3) := by decide +kernel
theorem dX4_setTurning_54 : decode cX4_setTurning 54 = .ok (.return_, 1) := by decide +kernel
noncomputable def f_X4_setTurning_J48 (a0 : Nat) (l1 : Int32) (l2 : Int32) (μ : Mm) : Option ((Int32 × Mm) ⊕ (Mm)) :=
  (some (l2 + (1 : Int32))).bind fun v48 => some (.inl (v48, μ))
noncomputable def f_X4_setTurning_L10 (a0 : Nat) (l1 : Int32) (s10 : Int32 × Mm) : Option ((Int32 × Mm) ⊕ (Mm)) :=
  if (8 : Int32) ≤ s10.1 then some (.inr s10.2) else (f_X9_dreamOf l1 s10.1 s10.2).bind fun x18 => (gf_P 5 3 a0 s10.2).bind fun x23 => (pa_I x23 s10.1 x18 s10.2).bind fun μ28 => if x18 < 0 then f_X4_setTurning_J48 a0 l1 s10.1 μ28 else if (8 : Int32) ≤ x18 then f_X4_setTurning_J48 a0 l1 s10.1 μ28 else (gf_P 5 4 a0 μ28).bind fun x40 => (pa_I x40 x18 ((1 : Int32) <<< (s10.1 &&& 31)) μ28).bind fun μ47 => f_X4_setTurning_J48 a0 l1 s10.1 μ47
noncomputable def f_X4_setTurning (a0 : Nat) (l1 : Int32) (μ : Mm) : Option Mm :=
  if (mm_K μ a0).1 = 5 then (gf_P 5 4 a0 μ).bind fun x1 => (f_J7_fill_53178 x1 (0 : Int32) μ).bind fun x5 => (whl (f_X4_setTurning_L10 a0 l1) ((0 : Int32), x5)).bind (fun b10 => some b10) else none
abbrev Rn_X4_setTurning (G : Gv) (Q : Option Value → Mm → Prop) (pc : Nat) (lv : List (Nat × Value)) (st : List Value) (μ : Mm) : Prop := Rn G RX4 cX4_setTurning 4 none "setTurning" (rmd 1 0 0) (Zm G 0 0 Q) 0 0 pc lv st μ
set_option maxRecDepth 100000 in
set_option maxHeartbeats 4000000 in
theorem m_X4_setTurning {G : Gv} (a0 : Nat) (l1 : Int32) (μ : Mm) {r : Mm} (hx : f_X4_setTurning a0 l1 μ = some r) : Mt G yX4_setTurning cX4_setTurning 4 none 1 0 0 [.ref a0, .int l1] μ (fun v μ' => v = none ∧ μ' = r) := by
  refine Mt.of (by decide) (Nat.le_of_ble_eq_true rfl) ?_
  show Rn_X4_setTurning G (fun v μ' => v = none ∧ μ' = r) 0 [(0, .ref a0), (1, .int l1)] [] μ
  obtain ⟨_, h⟩ := Sat_ifp (show Sat (f_X4_setTurning a0 l1 μ) (fun x => x = r) from ⟨_, hx, rfl⟩)
  refine r_aload_n dX4_setTurning_0 0 rfl ?_
  obtain ⟨x1, e1, h⟩ := Sat_bind h
  refine r_getP fk_X4_24 rfl e1 dX4_setTurning_1 ?_
  refine r_iconst (v := 0) dX4_setTurning_4 (by decide) ?_
  obtain ⟨x5, e5, h⟩ := Sat_bind h
  refine r_cS [.ref x1, .int (0 : Int32)] [] (m_J7_fill_53178 x1 (0 : Int32) μ e5) ck_J7_fill_53178 lk_X4_65 st_J7_fill_53178 rfl rfl (Nat.le_of_ble_eq_true rfl) ⟨by decide, by decide⟩ ⟨Nat.zero_le _, Nat.zero_le _⟩ dX4_setTurning_5 ?_
  refine r_iconst (v := 0) dX4_setTurning_8 (by decide) ?_
  refine r_istore_n (lv' := [(2, .int (0 : Int32)), (0, .ref a0), (1, .int l1)]) dX4_setTurning_9 rfl (by decide) rfl ?_
  refine r_sub (lv' := [(0, .ref a0), (1, .int l1), (2, .int (0 : Int32))]) [1, 2, 0] rfl ?_
  refine whl_K (s0 := (((0 : Int32), x5) : Int32 × Mm)) (RR := fun (s10 : Int32 × Mm) => Rn_X4_setTurning G (fun v μ' => v = none ∧ μ' = r) 10 [(0, .ref a0), (1, .int l1), (2, .int s10.1)] [] s10.2) ?_ (Sat_bindK h)
  intro s10 K10 hI10 hX10 h
  have J48 : ∀ (l2_48 : Int32) (μ_48 : Mm), Sat (f_X4_setTurning_J48 a0 l1 l2_48 μ_48) K10 → Rn_X4_setTurning G (fun v μ' => v = none ∧ μ' = r) 48 [(0, .ref a0), (1, .int l1), (2, .int l2_48)] [] μ_48 := by
    intro l2_48 μ_48 h
    obtain ⟨v48, e48, h⟩ := Sat_bind h
    refine r_iinc (j := 2) (v := v48) (lv' := [(2, .int v48), (0, .ref a0), (1, .int l1)]) dX4_setTurning_48 rfl (iinc_v e48 (by decide)) (by decide) rfl ?_
    refine r_goto 10 dX4_setTurning_51 (by decide) ?_
    exact r_sub [1, 2, 0] rfl (hI10 _ (Sat_some h))
  refine r_iload_n dX4_setTurning_10 2 rfl ?_
  refine r_bipush (v := 8) dX4_setTurning_11 (by decide) ?_
  refine r_icmp_ge 54 dX4_setTurning_13 (by decide) (fun c13 => ?_) (fun c13 => ?_)
  · have h := Sat_pos c13 h
    have h := hX10 _ (Sat_some h)
    exact r_vreturn rfl (by rw [← Sat_eq h]; exact ⟨rfl, rfl⟩) dX4_setTurning_54
  · have h := Sat_neg c13 h
    refine r_iload_n dX4_setTurning_16 1 rfl ?_
    refine r_iload_n dX4_setTurning_17 2 rfl ?_
    obtain ⟨x18, e18, h⟩ := Sat_bind h
    refine r_cS [.int l1, .int s10.1] [] (m_X9_dreamOf l1 s10.1 s10.2 e18) ck_X9_dreamOf lk_X4_71 st_X9_dreamOf rfl rfl (Nat.le_of_ble_eq_true rfl) ⟨by decide, by decide⟩ ⟨Nat.zero_le _, Nat.zero_le _⟩ dX4_setTurning_18 ?_
    refine r_istore_n (lv' := [(3, .int x18), (0, .ref a0), (1, .int l1), (2, .int s10.1)]) dX4_setTurning_21 rfl (by decide) rfl ?_
    refine r_aload_n dX4_setTurning_22 1 rfl ?_
    obtain ⟨x23, e23, h⟩ := Sat_bind h
    refine r_getP fk_X4_21 rfl e23 dX4_setTurning_23 ?_
    refine r_iload_n dX4_setTurning_26 3 rfl ?_
    refine r_iload_n dX4_setTurning_27 0 rfl ?_
    obtain ⟨μ28, e28, h⟩ := Sat_bind h
    refine r_iastore e28 dX4_setTurning_28 ?_
    refine r_iload_n dX4_setTurning_29 0 rfl ?_
    refine r_if_lt 48 dX4_setTurning_30 (by decide) (fun c30 => ?_) (fun c30 => ?_)
    · have h := Sat_pos c30 h
      exact r_sub [1, 2, 3] rfl (J48 s10.1 μ28 h)
    · have h := Sat_neg c30 h
      refine r_iload_n dX4_setTurning_33 0 rfl ?_
      refine r_bipush (v := 8) dX4_setTurning_34 (by decide) ?_
      refine r_icmp_ge 48 dX4_setTurning_36 (by decide) (fun c36 => ?_) (fun c36 => ?_)
      · have h := Sat_pos c36 h
        exact r_sub [1, 2, 3] rfl (J48 s10.1 μ28 h)
      · have h := Sat_neg c36 h
        refine r_aload_n dX4_setTurning_39 1 rfl ?_
        obtain ⟨x40, e40, h⟩ := Sat_bind h
        refine r_getP fk_X4_24 rfl e40 dX4_setTurning_40 ?_
        refine r_iload_n dX4_setTurning_43 0 rfl ?_
        refine r_iconst (v := 1) dX4_setTurning_44 (by decide) ?_
        refine r_iload_n dX4_setTurning_45 3 rfl ?_
        refine r_ishl dX4_setTurning_46 ?_
        obtain ⟨μ47, e47, h⟩ := Sat_bind h
        refine r_iastore e47 dX4_setTurning_47 ?_
        exact r_sub [1, 2, 3] rfl (J48 s10.1 μ47 h)
theorem dX10_all_0 : decode cX10_all 0 = .ok (.aload_n 0, 1) := by decide +kernel
theorem dX10_all_1 : decode cX10_all 1 = .ok (.getfield 63, 3) := by decide +kernel
theorem dX10_all_4 : decode cX10_all 4 = .ok (.iload_n 1, 1) := by decide +kernel
theorem dX10_all_5 : decode cX10_all 5 = .ok (.invokevirtual 188, 3) := by decide +kernel
theorem dX10_all_8 : decode cX10_all 8 = .ok (.ifCond .eq 10, 3) := by decide +kernel
theorem dX10_all_11 : decode cX10_all 11 = .ok (.iload_n 2, 1) := by decide +kernel
theorem dX10_all_12 : decode cX10_all 12 = .ok (.invokestatic 217, 3) := by decide +kernel
theorem dX10_all_15 : decode cX10_all 15 = .ok (.ifCond .ne 6, 3) := by decide +kernel
theorem dX10_all_18 : decode cX10_all 18 = .ok (.bipush (-2), 2) := by decide +kernel
theorem dX10_all_20 : decode cX10_all 20 = .ok (.ireturn, 1) := by decide +kernel
theorem dX10_all_21 : decode cX10_all 21 = .ok (.aload_n 0, 1) := by decide +kernel
theorem dX10_all_22 : decode cX10_all 22 = .ok (.getfield 84, 3) := by decide +kernel
theorem dX10_all_25 : decode cX10_all 25 = .ok (.aload_n 0, 1) := by decide +kernel
theorem dX10_all_26 : decode cX10_all 26 = .ok (.getfield 116, 3) := by decide +kernel
theorem dX10_all_29 : decode cX10_all 29 = .ok (.invokevirtual 220, 3) := by decide +kernel
theorem dX10_all_32 : decode cX10_all 32 = .ok (.aload_n 0, 1) := by decide +kernel
theorem dX10_all_33 : decode cX10_all 33 = .ok (.getfield 84, 3) := by decide +kernel
theorem dX10_all_36 : decode cX10_all 36 = .ok (.iload_n 1, 1) := by decide +kernel
theorem dX10_all_37 : decode cX10_all 37 = .ok (.iload_n 2, 1) := by decide +kernel
theorem dX10_all_38 : decode cX10_all 38 = .ok (.iconst 0, 1) := by decide +kernel
theorem dX10_all_39 : decode cX10_all 39 = .ok (.invokevirtual 223, 3) := by decide +kernel
theorem dX10_all_42 : decode cX10_all 42 = .ok (.aload_n 0, 1) := by decide +kernel
theorem dX10_all_43 : decode cX10_all 43 = .ok (.getfield 84, 3) := by decide +kernel
theorem dX10_all_46 : decode cX10_all 46 = .ok (.invokevirtual 242, 3) := by decide +kernel
theorem dX10_all_49 : decode cX10_all 49 = .ok (.ireturn, 1) := by decide +kernel
noncomputable def f_X10_all (a0 : Nat) (l1 : Int32) (l2 : Int32) (μ : Mm) : Option (Int32 × Mm) :=
  if (mm_K μ a0).1 = 11 then (gf_P 11 13 a0 μ).bind fun x1 => (f_X7_isFact x1 l1 μ).bind fun x5 => if x5 = 0 then some ((-2 : Int32), μ) else (f_X10_areWays l2 μ).bind fun x12 => if x12 = 0 then some ((-2 : Int32), μ) else (gf_P 11 3 a0 μ).bind fun x22 => (gf_I 11 15 a0 μ).bind fun x26 => (f_X4_setTurning x22 x26 μ).bind fun x29 => (gf_P 11 3 a0 x29).bind fun x33 => (f_X4_setFact x33 l1 l2 (0 : Int32) x29).bind fun x39 => (gf_P 11 3 a0 x39).bind fun x43 => (f_X4_firstDayOfAll x43 x39).bind fun x46 => some (x46, x39) else none
abbrev Rn_X10_all (G : Gv) (Q : Option Value → Mm → Prop) (pc : Nat) (lv : List (Nat × Value)) (st : List Value) (μ : Mm) : Prop := Rn G RX10 cX10_all 3 (some .int) "all" (rmd 3 0 0) (Zm G 0 0 Q) 0 0 pc lv st μ
set_option maxRecDepth 100000 in
set_option maxHeartbeats 4000000 in
theorem m_X10_all {G : Gv} (a0 : Nat) (l1 : Int32) (l2 : Int32) (μ : Mm) {r : (Int32 × Mm)} (hx : f_X10_all a0 l1 l2 μ = some r) : Mt G yX10_all cX10_all 3 (some .int) 3 0 0 [.ref a0, .int l1, .int l2] μ (fun v μ' => v = some (.int r.1) ∧ μ' = r.2) := by
  refine Mt.of (by decide) (Nat.le_of_ble_eq_true rfl) ?_
  show Rn_X10_all G (fun v μ' => v = some (.int r.1) ∧ μ' = r.2) 0 [(0, .ref a0), (1, .int l1), (2, .int l2)] [] μ
  obtain ⟨_, h⟩ := Sat_ifp (show Sat (f_X10_all a0 l1 l2 μ) (fun x => x = r) from ⟨_, hx, rfl⟩)
  refine r_aload_n dX10_all_0 0 rfl ?_
  obtain ⟨x1, e1, h⟩ := Sat_bind h
  refine r_getP fk_X10_63 rfl e1 dX10_all_1 ?_
  refine r_iload_n dX10_all_4 1 rfl ?_
  obtain ⟨x5, e5, h⟩ := Sat_bind h
  refine r_cV (t := 8) [.int l1] [] (m_X7_isFact x1 l1 μ e5) ck_X7_isFact lk_X10_188 in_X7_isFact se_X7_isFact (kd_of e5) ⟨rfl, by decide, by decide⟩ rfl rfl (Nat.le_of_ble_eq_true rfl) ⟨by decide, by decide⟩ ⟨Nat.zero_le _, Nat.zero_le _⟩ dX10_all_5 ?_
  refine r_if_eq 18 dX10_all_8 (by decide) (fun c8 => ?_) (fun c8 => ?_)
  · have h := Sat_pos c8 h
    refine r_bipush (v := -2) dX10_all_18 (by decide) ?_
    exact r_ireturn rfl (by rw [← Sat_eq h]; exact ⟨rfl, rfl⟩) dX10_all_20
  · have h := Sat_neg c8 h
    refine r_iload_n dX10_all_11 2 rfl ?_
    obtain ⟨x12, e12, h⟩ := Sat_bind h
    refine r_cS [.int l2] [] (m_X10_areWays l2 μ e12) ck_X10_areWays lk_X10_217 st_X10_areWays rfl rfl (Nat.le_of_ble_eq_true rfl) ⟨by decide, by decide⟩ ⟨Nat.zero_le _, Nat.zero_le _⟩ dX10_all_12 ?_
    refine r_if_ne 21 dX10_all_15 (by decide) (fun c15 => ?_) (fun c15 => ?_)
    · have h := Sat_neg c15 h
      refine r_aload_n dX10_all_21 0 rfl ?_
      obtain ⟨x22, e22, h⟩ := Sat_bind h
      refine r_getP fk_X10_84 rfl e22 dX10_all_22 ?_
      refine r_aload_n dX10_all_25 0 rfl ?_
      obtain ⟨x26, e26, h⟩ := Sat_bind h
      refine r_getI fk_X10_116 rfl e26 dX10_all_26 ?_
      obtain ⟨x29, e29, h⟩ := Sat_bind h
      refine r_cV (t := 5) [.int x26] [] (m_X4_setTurning x22 x26 μ e29) ck_X4_setTurning lk_X10_220 in_X4_setTurning se_X4_setTurning (kd_of e29) ⟨rfl, by decide, by decide⟩ rfl rfl (Nat.le_of_ble_eq_true rfl) ⟨by decide, by decide⟩ ⟨Nat.zero_le _, Nat.zero_le _⟩ dX10_all_29 ?_
      refine r_aload_n dX10_all_32 0 rfl ?_
      obtain ⟨x33, e33, h⟩ := Sat_bind h
      refine r_getP fk_X10_84 rfl e33 dX10_all_33 ?_
      refine r_iload_n dX10_all_36 1 rfl ?_
      refine r_iload_n dX10_all_37 2 rfl ?_
      refine r_iconst (v := 0) dX10_all_38 (by decide) ?_
      obtain ⟨x39, e39, h⟩ := Sat_bind h
      refine r_cV (t := 5) [.int l1, .int l2, .int (0 : Int32)] [] (m_X4_setFact x33 l1 l2 (0 : Int32) x29 e39) ck_X4_setFact lk_X10_223 in_X4_setFact se_X4_setFact (kd_of e39) ⟨rfl, by decide, by decide⟩ rfl rfl (Nat.le_of_ble_eq_true rfl) ⟨by decide, by decide⟩ ⟨Nat.zero_le _, Nat.zero_le _⟩ dX10_all_39 ?_
      refine r_aload_n dX10_all_42 0 rfl ?_
      obtain ⟨x43, e43, h⟩ := Sat_bind h
      refine r_getP fk_X10_84 rfl e43 dX10_all_43 ?_
      obtain ⟨x46, e46, h⟩ := Sat_bind h
      refine r_cV (t := 5) [] [] (m_X4_firstDayOfAll x43 x39 e46) ck_X4_firstDayOfAll lk_X10_242 in_X4_firstDayOfAll se_X4_firstDayOfAll (kd_of e46) ⟨rfl, by decide, by decide⟩ rfl rfl (Nat.le_of_ble_eq_true rfl) ⟨by decide, by decide⟩ ⟨Nat.zero_le _, Nat.zero_le _⟩ dX10_all_46 ?_
      exact r_ireturn rfl (by rw [← Sat_eq h]; exact ⟨rfl, rfl⟩) dX10_all_49
    · have h := Sat_pos c15 h
      refine r_bipush (v := -2) dX10_all_18 (by decide) ?_
      exact r_ireturn rfl (by rw [← Sat_eq h]; exact ⟨rfl, rfl⟩) dX10_all_20
theorem dX1_lineOf_0 : decode cX1_lineOf 0 = .ok (.aload_n 0, 1) := by decide +kernel
theorem dX1_lineOf_1 : decode cX1_lineOf 1 = .ok (.getfield 11, 3) := by decide +kernel
theorem dX1_lineOf_4 : decode cX1_lineOf 4 = .ok (.iload_n 1, 1) := by decide +kernel
theorem dX1_lineOf_5 : decode cX1_lineOf 5 = .ok (.ifCond .lt 13, 3) := by decide +kernel
theorem dX1_lineOf_8 : decode cX1_lineOf 8 = .ok (.iload_n 1, 1) := by decide +kernel
theorem dX1_lineOf_9 : decode cX1_lineOf 9 = .ok (.bipush 12, 2) := by decide +kernel
theorem dX1_lineOf_11 : decode cX1_lineOf 11 = .ok (.if_icmp .ge 7, 3) := by decide +kernel
theorem dX1_lineOf_14 : decode cX1_lineOf 14 = .ok (.iload_n 1, 1) := by decide +kernel
theorem dX1_lineOf_15 : decode cX1_lineOf 15 = .ok (.goto 4, 3) := by decide +kernel
theorem dX1_lineOf_18 : decode cX1_lineOf 18 = .ok (.iconst 0, 1) := by decide +kernel
theorem dX1_lineOf_19 : decode cX1_lineOf 19 = .ok (.aaload, 1) := by decide +kernel
theorem dX1_lineOf_20 : decode cX1_lineOf 20 = .ok (.areturn, 1) := by decide +kernel
noncomputable def f_X1_lineOf_J19  (k0 : Nat) (k1 : Int32) (μ : Mm) : Option Nat :=
  (ga_P 25 k0 k1 μ).bind fun x19 => some x19
noncomputable def f_X1_lineOf_J18  (k0 : Nat) (μ : Mm) : Option Nat :=
  f_X1_lineOf_J19 k0 (0 : Int32) μ
noncomputable def f_X1_lineOf (a0 : Nat) (l1 : Int32) (μ : Mm) : Option Nat :=
  if (mm_K μ a0).1 = 2 then (gf_P 2 2 a0 μ).bind fun x1 => if l1 < 0 then f_X1_lineOf_J18 x1 μ else if (12 : Int32) ≤ l1 then f_X1_lineOf_J18 x1 μ else f_X1_lineOf_J19 x1 l1 μ else none
abbrev Rn_X1_lineOf (G : Gv) (Q : Option Value → Mm → Prop) (pc : Nat) (lv : List (Nat × Value)) (st : List Value) (μ : Mm) : Prop := Rn G RX1 cX1_lineOf 2 (some (.array .long)) "lineOf" (rmd 0 0 0) (Zm G 0 0 Q) 0 0 pc lv st μ
set_option maxRecDepth 100000 in
set_option maxHeartbeats 4000000 in
theorem m_X1_lineOf {G : Gv} (a0 : Nat) (l1 : Int32) (μ : Mm) {r : Nat} (hx : f_X1_lineOf a0 l1 μ = some r) : Mt G yX1_lineOf cX1_lineOf 2 (some (.array .long)) 0 0 0 [.ref a0, .int l1] μ (fun v μ' => v = some (.ref r) ∧ μ' = μ) := by
  refine Mt.of (by decide) (Nat.le_of_ble_eq_true rfl) ?_
  show Rn_X1_lineOf G (fun v μ' => v = some (.ref r) ∧ μ' = μ) 0 [(0, .ref a0), (1, .int l1)] [] μ
  obtain ⟨_, h⟩ := Sat_ifp (show Sat (f_X1_lineOf a0 l1 μ) (fun x => x = r) from ⟨_, hx, rfl⟩)
  have J19 : ∀ (k0_19 : Nat) (k1_19 : Int32), Sat (f_X1_lineOf_J19 k0_19 k1_19 μ) (fun x => x = r) → Rn_X1_lineOf G (fun v μ' => v = some (.ref r) ∧ μ' = μ) 19 [] [.int k1_19, .ref k0_19] μ := by
    intro k0_19 k1_19 h
    obtain ⟨x19, e19, h⟩ := Sat_bind h
    refine r_aaload (Or.inr rfl) e19 dX1_lineOf_19 ?_
    exact r_areturn rfl rfl (by rw [← Sat_eq h]; exact ⟨rfl, rfl⟩) dX1_lineOf_20
  have J18 : ∀ (k0_18 : Nat), Sat (f_X1_lineOf_J18 k0_18 μ) (fun x => x = r) → Rn_X1_lineOf G (fun v μ' => v = some (.ref r) ∧ μ' = μ) 18 [] [.ref k0_18] μ := by
    intro k0_18 h
    refine r_iconst (v := 0) dX1_lineOf_18 (by decide) ?_
    exact r_sub [] rfl (J19 k0_18 (0 : Int32) h)
  refine r_aload_n dX1_lineOf_0 0 rfl ?_
  obtain ⟨x1, e1, h⟩ := Sat_bind h
  refine r_getP fk_X1_11 rfl e1 dX1_lineOf_1 ?_
  refine r_iload_n dX1_lineOf_4 1 rfl ?_
  refine r_if_lt 18 dX1_lineOf_5 (by decide) (fun c5 => ?_) (fun c5 => ?_)
  · have h := Sat_pos c5 h
    exact r_sub [] rfl (J18 x1 h)
  · have h := Sat_neg c5 h
    refine r_iload_n dX1_lineOf_8 1 rfl ?_
    refine r_bipush (v := 12) dX1_lineOf_9 (by decide) ?_
    refine r_icmp_ge 18 dX1_lineOf_11 (by decide) (fun c11 => ?_) (fun c11 => ?_)
    · have h := Sat_pos c11 h
      exact r_sub [] rfl (J18 x1 h)
    · have h := Sat_neg c11 h
      refine r_iload_n dX1_lineOf_14 1 rfl ?_
      refine r_goto 19 dX1_lineOf_15 (by decide) ?_
      exact r_sub [] rfl (J19 x1 l1 h)
theorem dX1_momentIn_0 : decode cX1_momentIn 0 = .ok (.iload_n 1, 1) := by decide +kernel
theorem dX1_momentIn_1 : decode cX1_momentIn 1 = .ok (.ifCond .lt 9, 3) := by decide +kernel
theorem dX1_momentIn_4 : decode cX1_momentIn 4 = .ok (.iload_n 1, 1) := by decide +kernel
theorem dX1_momentIn_5 : decode cX1_momentIn 5 = .ok (.aload_n 0, 1) := by decide +kernel
theorem dX1_momentIn_6 : decode cX1_momentIn 6 = .ok (.arraylength, 1) := by decide +kernel
theorem dX1_momentIn_7 : decode cX1_momentIn 7 = .ok (.if_icmp .lt 7, 3) := by decide +kernel
theorem dX1_momentIn_10 : decode cX1_momentIn 10 = .ok (.sipush 255, 3) := by decide +kernel
theorem dX1_momentIn_13 : decode cX1_momentIn 13 = .ok (.ireturn, 1) := by decide +kernel
theorem dX1_momentIn_14 : decode cX1_momentIn 14 = .ok (.aload_n 0, 1) := by decide +kernel
theorem dX1_momentIn_15 : decode cX1_momentIn 15 = .ok (.iload_n 1, 1) := by decide +kernel
theorem dX1_momentIn_16 : decode cX1_momentIn 16 = .ok (.laload, 1) := by decide +kernel
theorem dX1_momentIn_17 : decode cX1_momentIn 17 = .ok (.bipush 8, 2) := by decide +kernel
theorem dX1_momentIn_19 : decode cX1_momentIn 19 = .ok (.iload_n 2, 1) := by decide +kernel
theorem dX1_momentIn_20 : decode cX1_momentIn 20 = .ok (.imul, 1) := by decide +kernel
theorem dX1_momentIn_21 : decode cX1_momentIn 21 = .ok (.lushr, 1) := by decide +kernel
theorem dX1_momentIn_22 : decode cX1_momentIn 22 = .ok (.l2i, 1) := by decide +kernel
theorem dX1_momentIn_23 : decode cX1_momentIn 23 = .ok (.sipush 255, 3) := by decide +kernel
theorem dX1_momentIn_26 : decode cX1_momentIn 26 = .ok (.iand, 1) := by decide +kernel
theorem dX1_momentIn_27 : decode cX1_momentIn 27 = .ok (.ireturn, 1) := by decide +kernel
noncomputable def f_X1_momentIn (l0 : Nat) (l1 : Int32) (l2 : Int32) (μ : Mm) : Option Int32 :=
  if l1 < 0 then some (255 : Int32) else (ga_len l0 μ).bind fun x6 => if l1 < x6 then (ga_L l0 l1 μ).bind fun x16 => some ((((x16.toUInt64 >>> (((8 : Int32) * l2).toInt64.toUInt64 &&& Int64.toUInt64 63)).toInt64).toInt32) &&& (255 : Int32)) else some (255 : Int32)
abbrev Rn_X1_momentIn (G : Gv) (Q : Option Value → Mm → Prop) (pc : Nat) (lv : List (Nat × Value)) (st : List Value) (μ : Mm) : Prop := Rn G RX1 cX1_momentIn 3 (some .int) "momentIn" (rmd 0 0 0) (Zm G 0 0 Q) 0 0 pc lv st μ
set_option maxRecDepth 100000 in
set_option maxHeartbeats 4000000 in
theorem m_X1_momentIn {G : Gv} (l0 : Nat) (l1 : Int32) (l2 : Int32) (μ : Mm) {r : Int32} (hx : f_X1_momentIn l0 l1 l2 μ = some r) : Mt G yX1_momentIn cX1_momentIn 3 (some .int) 0 0 0 [.ref l0, .int l1, .int l2] μ (fun v μ' => v = some (.int r) ∧ μ' = μ) := by
  refine Mt.of (by decide) (Nat.le_of_ble_eq_true rfl) ?_
  show Rn_X1_momentIn G (fun v μ' => v = some (.int r) ∧ μ' = μ) 0 [(0, .ref l0), (1, .int l1), (2, .int l2)] [] μ
  have h : Sat (f_X1_momentIn l0 l1 l2 μ) (fun x => x = r) := ⟨_, hx, rfl⟩
  refine r_iload_n dX1_momentIn_0 1 rfl ?_
  refine r_if_lt 10 dX1_momentIn_1 (by decide) (fun c1 => ?_) (fun c1 => ?_)
  · have h := Sat_pos c1 h
    refine r_sipush (v := 255) dX1_momentIn_10 (by decide) ?_
    exact r_ireturn rfl (by rw [← Sat_eq h]; exact ⟨rfl, rfl⟩) dX1_momentIn_13
  · have h := Sat_neg c1 h
    refine r_iload_n dX1_momentIn_4 1 rfl ?_
    refine r_aload_n dX1_momentIn_5 0 rfl ?_
    obtain ⟨x6, e6, h⟩ := Sat_bind h
    refine r_len e6 dX1_momentIn_6 ?_
    refine r_icmp_lt 14 dX1_momentIn_7 (by decide) (fun c7 => ?_) (fun c7 => ?_)
    · have h := Sat_pos c7 h
      refine r_aload_n dX1_momentIn_14 0 rfl ?_
      refine r_iload_n dX1_momentIn_15 1 rfl ?_
      obtain ⟨x16, e16, h⟩ := Sat_bind h
      refine r_laload e16 dX1_momentIn_16 ?_
      refine r_bipush (v := 8) dX1_momentIn_17 (by decide) ?_
      refine r_iload_n dX1_momentIn_19 2 rfl ?_
      refine r_imul dX1_momentIn_20 ?_
      refine r_lushr dX1_momentIn_21 ?_
      refine r_l2i dX1_momentIn_22 ?_
      refine r_sipush (v := 255) dX1_momentIn_23 (by decide) ?_
      refine r_iand dX1_momentIn_26 ?_
      exact r_ireturn rfl (by rw [← Sat_eq h]; exact ⟨rfl, rfl⟩) dX1_momentIn_27
    · have h := Sat_neg c7 h
      refine r_sipush (v := 255) dX1_momentIn_10 (by decide) ?_
      exact r_ireturn rfl (by rw [← Sat_eq h]; exact ⟨rfl, rfl⟩) dX1_momentIn_13
theorem dX1_chooseDay_0 : decode cX1_chooseDay 0 = .ok (.aload_n 0, 1) := by decide +kernel
theorem dX1_chooseDay_1 : decode cX1_chooseDay 1 = .ok (.getfield 16, 3) := by decide +kernel
theorem dX1_chooseDay_4 : decode cX1_chooseDay 4 = .ok (.iconst 0, 1) := by decide +kernel
theorem dX1_chooseDay_5 : decode cX1_chooseDay 5 = .ok (.invokestatic 179, 3) := by decide +kernel
theorem dX1_chooseDay_8 : decode cX1_chooseDay 8 = .ok (.aload_n 0, 1) := by decide +kernel
theorem dX1_chooseDay_9 : decode cX1_chooseDay 9 = .ok (.iload_n 2, 1) := by decide +kernel
theorem dX1_chooseDay_10 : decode cX1_chooseDay 10 = .ok (.invokevirtual 129, 3) := by decide +kernel
theorem dX1_chooseDay_13 : decode cX1_chooseDay 13 = .ok (.astore 4, 2) := by decide +kernel
theorem dX1_chooseDay_15 : decode cX1_chooseDay 15 = .ok (.iconst 0, 1) := by decide +kernel
theorem dX1_chooseDay_16 : decode cX1_chooseDay 16 = .ok (.istore 5, 2) := by decide +kernel
theorem dX1_chooseDay_18 : decode cX1_chooseDay 18 = .ok (.iload 5, 2) := by decide +kernel
theorem dX1_chooseDay_20 : decode cX1_chooseDay 20 = .ok (.aload_n 0, 1) := by decide +kernel
theorem dX1_chooseDay_21 : decode cX1_chooseDay 21 = .ok (.getfield 122, 3) := by decide +kernel
theorem dX1_chooseDay_24 : decode cX1_chooseDay 24 = .ok (.if_icmp .ge 55, 3) := by decide +kernel
theorem dX1_chooseDay_27 : decode cX1_chooseDay 27 = .ok (.iload 5, 2) := by decide +kernel
theorem dX1_chooseDay_29 : decode cX1_chooseDay 29 = .ok (.aload_n 0, 1) := by decide +kernel
theorem dX1_chooseDay_30 : decode cX1_chooseDay 30 = .ok (.getfield 28, 3) := by decide +kernel
theorem dX1_chooseDay_33 : decode cX1_chooseDay 33 = .ok (.arraylength, 1) := by decide +kernel
theorem dX1_chooseDay_34 : decode cX1_chooseDay 34 = .ok (.if_icmp .ge 45, 3) := by decide +kernel
theorem dX1_chooseDay_37 : decode cX1_chooseDay 37 = .ok (.aload 4, 2) := by decide +kernel
theorem dX1_chooseDay_39 : decode cX1_chooseDay 39 = .ok (.aload_n 0, 1) := by decide +kernel
theorem dX1_chooseDay_40 : decode cX1_chooseDay 40 = .ok (.getfield 28, 3) := by decide +kernel
theorem dX1_chooseDay_43 : decode cX1_chooseDay 43 = .ok (.iload 5, 2) := by decide +kernel
theorem dX1_chooseDay_45 : decode cX1_chooseDay 45 = .ok (.iaload, 1) := by decide +kernel
theorem dX1_chooseDay_46 : decode cX1_chooseDay 46 = .ok (.iload_n 1, 1) := by decide +kernel
theorem dX1_chooseDay_47 : decode cX1_chooseDay 47 = .ok (.invokestatic 136, 3) := by decide +kernel
theorem dX1_chooseDay_50 : decode cX1_chooseDay 50 = .ok (.istore 6, 2) := by decide +kernel
theorem dX1_chooseDay_52 : decode cX1_chooseDay 52 = .ok (.iload 6, 2) := by decide +kernel
theorem dX1_chooseDay_54 : decode cX1_chooseDay 54 = .ok (.aload_n 0, 1) := by decide +kernel
theorem dX1_chooseDay_55 : decode cX1_chooseDay 55 = .ok (.getfield 16, 3) := by decide +kernel
theorem dX1_chooseDay_58 : decode cX1_chooseDay 58 = .ok (.arraylength, 1) := by decide +kernel
theorem dX1_chooseDay_59 : decode cX1_chooseDay 59 = .ok (.if_icmp .ge 14, 3) := by decide +kernel
theorem dX1_chooseDay_62 : decode cX1_chooseDay 62 = .ok (.aload_n 0, 1) := by decide +kernel
theorem dX1_chooseDay_63 : decode cX1_chooseDay 63 = .ok (.getfield 16, 3) := by decide +kernel
theorem dX1_chooseDay_66 : decode cX1_chooseDay 66 = .ok (.iload 6, 2) := by decide +kernel
theorem dX1_chooseDay_68 : decode cX1_chooseDay 68 = .ok (.dup2, 1) := by decide +kernel
theorem dX1_chooseDay_69 : decode cX1_chooseDay 69 = .ok (.iaload, 1) := by decide +kernel
theorem dX1_chooseDay_70 : decode cX1_chooseDay 70 = .ok (.iconst 1, 1) := by decide +kernel
theorem dX1_chooseDay_71 : decode cX1_chooseDay 71 = .ok (.iadd, 1) := by decide +kernel
theorem dX1_chooseDay_72 : decode cX1_chooseDay 72 = .ok (.iastore, 1) := by decide +kernel
theorem dX1_chooseDay_73 : decode cX1_chooseDay 73 = .ok (.iinc 5 1, 3) := by decide +kernel
theorem dX1_chooseDay_76 : decode cX1_chooseDay 76 = .ok (.goto (-58), 3) := by decide +kernel
theorem dX1_chooseDay_79 : decode cX1_chooseDay 79 = .ok (.iload_n 3, 1) := by decide +kernel
theorem dX1_chooseDay_80 : decode cX1_chooseDay 80 = .ok (.istore 5, 2) := by decide +kernel
theorem dX1_chooseDay_82 : decode cX1_chooseDay 82 = .ok (.iconst 0, 1) := by decide +kernel
theorem dX1_chooseDay_83 : decode cX1_chooseDay 83 = .ok (.istore 6, 2) := by decide +kernel
theorem dX1_chooseDay_85 : decode cX1_chooseDay 85 = .ok (.iconst 0, 1) := by decide +kernel
theorem dX1_chooseDay_86 : decode cX1_chooseDay 86 = .ok (.istore 7, 2) := by decide +kernel
theorem dX1_chooseDay_88 : decode cX1_chooseDay 88 = .ok (.iload 7, 2) := by decide +kernel
theorem dX1_chooseDay_90 : decode cX1_chooseDay 90 = .ok (.aload_n 0, 1) := by decide +kernel
theorem dX1_chooseDay_91 : decode cX1_chooseDay 91 = .ok (.getfield 16, 3) := by decide +kernel
theorem dX1_chooseDay_94 : decode cX1_chooseDay 94 = .ok (.arraylength, 1) := by decide +kernel
theorem dX1_chooseDay_95 : decode cX1_chooseDay 95 = .ok (.if_icmp .ge 71, 3) := by decide +kernel
theorem dX1_chooseDay_98 : decode cX1_chooseDay 98 = .ok (.iload 6, 2) := by decide +kernel
theorem dX1_chooseDay_100 : decode cX1_chooseDay 100 = .ok (.aload_n 0, 1) := by decide +kernel
theorem dX1_chooseDay_101 : decode cX1_chooseDay 101 = .ok (.getfield 16, 3) := by decide +kernel
theorem dX1_chooseDay_104 : decode cX1_chooseDay 104 = .ok (.iload 7, 2) := by decide +kernel
theorem dX1_chooseDay_106 : decode cX1_chooseDay 106 = .ok (.iaload, 1) := by decide +kernel
theorem dX1_chooseDay_107 : decode cX1_chooseDay 107 = .ok (.iadd, 1) := by decide +kernel
theorem dX1_chooseDay_108 : decode cX1_chooseDay 108 = .ok (.istore 6, 2) := by decide +kernel
theorem dX1_chooseDay_110 : decode cX1_chooseDay 110 = .ok (.iload 6, 2) := by decide +kernel
theorem dX1_chooseDay_112 : decode cX1_chooseDay 112 = .ok (.aload_n 0, 1) := by decide +kernel
theorem dX1_chooseDay_113 : decode cX1_chooseDay 113 = .ok (.getfield 122, 3) := by decide +kernel
theorem dX1_chooseDay_116 : decode cX1_chooseDay 116 = .ok (.iload 6, 2) := by decide +kernel
theorem dX1_chooseDay_118 : decode cX1_chooseDay 118 = .ok (.isub, 1) := by decide +kernel
theorem dX1_chooseDay_119 : decode cX1_chooseDay 119 = .ok (.invokestatic 60, 3) := by decide +kernel
theorem dX1_chooseDay_122 : decode cX1_chooseDay 122 = .ok (.istore 8, 2) := by decide +kernel
theorem dX1_chooseDay_124 : decode cX1_chooseDay 124 = .ok (.iload 7, 2) := by decide +kernel
theorem dX1_chooseDay_126 : decode cX1_chooseDay 126 = .ok (.iconst 2, 1) := by decide +kernel
theorem dX1_chooseDay_127 : decode cX1_chooseDay 127 = .ok (.irem, 1) := by decide +kernel
theorem dX1_chooseDay_128 : decode cX1_chooseDay 128 = .ok (.ifCond .ne 32, 3) := by decide +kernel
theorem dX1_chooseDay_131 : decode cX1_chooseDay 131 = .ok (.iload 8, 2) := by decide +kernel
theorem dX1_chooseDay_133 : decode cX1_chooseDay 133 = .ok (.iload 5, 2) := by decide +kernel
theorem dX1_chooseDay_135 : decode cX1_chooseDay 135 = .ok (.if_icmp .ge 25, 3) := by decide +kernel
theorem dX1_chooseDay_138 : decode cX1_chooseDay 138 = .ok (.iload 8, 2) := by decide +kernel
theorem dX1_chooseDay_140 : decode cX1_chooseDay 140 = .ok (.istore 5, 2) := by decide +kernel
theorem dX1_chooseDay_142 : decode cX1_chooseDay 142 = .ok (.aload_n 0, 1) := by decide +kernel
theorem dX1_chooseDay_143 : decode cX1_chooseDay 143 = .ok (.iload_n 1, 1) := by decide +kernel
theorem dX1_chooseDay_144 : decode cX1_chooseDay 144 = .ok (.putfield 164, 3) := by decide +kernel
theorem dX1_chooseDay_147 : decode cX1_chooseDay 147 = .ok (.aload_n 0, 1) := by decide +kernel
theorem dX1_chooseDay_148 : decode cX1_chooseDay 148 = .ok (.iload_n 2, 1) := by decide +kernel
theorem dX1_chooseDay_149 : decode cX1_chooseDay 149 = .ok (.putfield 167, 3) := by decide +kernel
theorem dX1_chooseDay_152 : decode cX1_chooseDay 152 = .ok (.aload_n 0, 1) := by decide +kernel
theorem dX1_chooseDay_153 : decode cX1_chooseDay 153 = .ok (.iload 7, 2) := by decide +kernel
theorem dX1_chooseDay_155 : decode cX1_chooseDay 155 = .ok (.iconst 2, 1) := by decide +kernel
theorem dX1_chooseDay_156 : decode cX1_chooseDay 156 = .ok (.idiv, 1) := by decide +kernel
theorem dX1_chooseDay_157 : decode cX1_chooseDay 157 = .ok (.putfield 170, 3) := by decide +kernel
theorem dX1_chooseDay_160 : decode cX1_chooseDay 160 = .ok (.iinc 7 1, 3) := by decide +kernel
theorem dX1_chooseDay_163 : decode cX1_chooseDay 163 = .ok (.goto (-75), 3) := by decide +kernel
theorem dX1_chooseDay_166 : decode cX1_chooseDay 166 = .ok (.iload 5, 2) := by decide +kernel
theorem dX1_chooseDay_168 : decode cX1_chooseDay 168 = .ok (.ireturn, 1) := by decide +kernel
noncomputable def f_X1_chooseDay_J160 (a0 : Nat) (l1 : Int32) (l2 : Int32) (l5 : Int32) (l6 : Int32) (l7 : Int32) (μ : Mm) : Option ((Int32 × Int32 × Int32 × Mm) ⊕ (Int32 × Mm)) :=
  (some (l7 + (1 : Int32))).bind fun v160 => some (.inl (l5, l6, v160, μ))
noncomputable def f_X1_chooseDay_L88 (a0 : Nat) (l1 : Int32) (l2 : Int32) (s88 : Int32 × Int32 × Int32 × Mm) : Option ((Int32 × Int32 × Int32 × Mm) ⊕ (Int32 × Mm)) :=
  (gf_P 2 3 a0 s88.2.2.2).bind fun x91 => (ga_len x91 s88.2.2.2).bind fun x94 => if x94 ≤ s88.2.2.1 then some (.inr (s88.1, s88.2.2.2)) else (gf_P 2 3 a0 s88.2.2.2).bind fun x101 => (ga_I x101 s88.2.2.1 s88.2.2.2).bind fun x106 => (some (s88.2.1 + x106)).bind fun v108 => (gf_I 2 8 a0 s88.2.2.2).bind fun x113 => (some (if v108 < (x113 - v108) then (x113 - v108) else v108)).bind fun v122 => if (s88.2.2.1 - s88.2.2.1 / (2 : Int32) * (2 : Int32)) = 0 then if s88.1 ≤ v122 then f_X1_chooseDay_J160 a0 l1 l2 s88.1 v108 s88.2.2.1 s88.2.2.2 else (pf_I 2 12 a0 l1 s88.2.2.2).bind fun μ144 => (pf_I 2 13 a0 l2 μ144).bind fun μ149 => (pf_I 2 14 a0 (s88.2.2.1 / (2 : Int32)) μ149).bind fun μ157 => f_X1_chooseDay_J160 a0 l1 l2 v122 v108 s88.2.2.1 μ157 else f_X1_chooseDay_J160 a0 l1 l2 s88.1 v108 s88.2.2.1 s88.2.2.2
noncomputable def f_X1_chooseDay_J79 (a0 : Nat) (l1 : Int32) (l2 : Int32) (l3 : Int32) (μ : Mm) : Option (Int32 × Mm) :=
  (whl (f_X1_chooseDay_L88 a0 l1 l2) (l3, (0 : Int32), (0 : Int32), μ)).bind (fun b88 => some (b88.1, b88.2))
noncomputable def f_X1_chooseDay_J73 (a0 : Nat) (l1 : Int32) (l2 : Int32) (l3 : Int32) (l4 : Nat) (l5 : Int32) (μ : Mm) : Option ((Int32 × Mm) ⊕ (Mm)) :=
  (some (l5 + (1 : Int32))).bind fun v73 => some (.inl (v73, μ))
noncomputable def f_X1_chooseDay_L18 (a0 : Nat) (l1 : Int32) (l2 : Int32) (l3 : Int32) (l4 : Nat) (s18 : Int32 × Mm) : Option ((Int32 × Mm) ⊕ (Mm)) :=
  (gf_I 2 8 a0 s18.2).bind fun x21 => if x21 ≤ s18.1 then some (.inr s18.2) else (gf_P 2 7 a0 s18.2).bind fun x30 => (ga_len x30 s18.2).bind fun x33 => if x33 ≤ s18.1 then some (.inr s18.2) else (gf_P 2 7 a0 s18.2).bind fun x40 => (ga_I x40 s18.1 s18.2).bind fun x45 => (f_X1_momentIn l4 x45 l1 s18.2).bind fun x47 => (gf_P 2 3 a0 s18.2).bind fun x55 => (ga_len x55 s18.2).bind fun x58 => if x58 ≤ x47 then f_X1_chooseDay_J73 a0 l1 l2 l3 l4 s18.1 s18.2 else (gf_P 2 3 a0 s18.2).bind fun x63 => (ga_I x63 x47 s18.2).bind fun x69 => (pa_I x63 x47 (x69 + (1 : Int32)) s18.2).bind fun μ72 => f_X1_chooseDay_J73 a0 l1 l2 l3 l4 s18.1 μ72
noncomputable def f_X1_chooseDay (a0 : Nat) (l1 : Int32) (l2 : Int32) (l3 : Int32) (μ : Mm) : Option (Int32 × Mm) :=
  if (mm_K μ a0).1 = 2 then (gf_P 2 3 a0 μ).bind fun x1 => (f_J7_fill_53178 x1 (0 : Int32) μ).bind fun x5 => (f_X1_lineOf a0 l2 x5).bind fun x10 => (whl (f_X1_chooseDay_L18 a0 l1 l2 l3 x10) ((0 : Int32), x5)).bind (fun b18 => f_X1_chooseDay_J79 a0 l1 l2 l3 b18) else none
abbrev Rn_X1_chooseDay (G : Gv) (Q : Option Value → Mm → Prop) (pc : Nat) (lv : List (Nat × Value)) (st : List Value) (μ : Mm) : Prop := Rn G RX1 cX1_chooseDay 9 (some .int) "chooseDay" (rmd 1 0 0) (Zm G 0 0 Q) 0 0 pc lv st μ
set_option maxRecDepth 100000 in
set_option maxHeartbeats 4000000 in
theorem m_X1_chooseDay {G : Gv} (a0 : Nat) (l1 : Int32) (l2 : Int32) (l3 : Int32) (μ : Mm) {r : (Int32 × Mm)} (hx : f_X1_chooseDay a0 l1 l2 l3 μ = some r) : Mt G yX1_chooseDay cX1_chooseDay 9 (some .int) 1 0 0 [.ref a0, .int l1, .int l2, .int l3] μ (fun v μ' => v = some (.int r.1) ∧ μ' = r.2) := by
  refine Mt.of (by decide) (Nat.le_of_ble_eq_true rfl) ?_
  show Rn_X1_chooseDay G (fun v μ' => v = some (.int r.1) ∧ μ' = r.2) 0 [(0, .ref a0), (1, .int l1), (2, .int l2), (3, .int l3)] [] μ
  obtain ⟨_, h⟩ := Sat_ifp (show Sat (f_X1_chooseDay a0 l1 l2 l3 μ) (fun x => x = r) from ⟨_, hx, rfl⟩)
  have J79 : ∀ (a0_79 : Nat) (l1_79 : Int32) (l2_79 : Int32) (l3_79 : Int32) (μ_79 : Mm), Sat (f_X1_chooseDay_J79 a0_79 l1_79 l2_79 l3_79 μ_79) (fun x => x = r) → Rn_X1_chooseDay G (fun v μ' => v = some (.int r.1) ∧ μ' = r.2) 79 [(0, .ref a0_79), (1, .int l1_79), (2, .int l2_79), (3, .int l3_79)] [] μ_79 := by
    intro a0_79 l1_79 l2_79 l3_79 μ_79 h
    refine r_iload_n dX1_chooseDay_79 3 rfl ?_
    refine r_istore (lv' := [(5, .int l3_79), (0, .ref a0_79), (1, .int l1_79), (2, .int l2_79), (3, .int l3_79)]) dX1_chooseDay_80 (by decide) rfl ?_
    refine r_iconst (v := 0) dX1_chooseDay_82 (by decide) ?_
    refine r_istore (lv' := [(6, .int (0 : Int32)), (5, .int l3_79), (0, .ref a0_79), (1, .int l1_79), (2, .int l2_79), (3, .int l3_79)]) dX1_chooseDay_83 (by decide) rfl ?_
    refine r_iconst (v := 0) dX1_chooseDay_85 (by decide) ?_
    refine r_istore (lv' := [(7, .int (0 : Int32)), (6, .int (0 : Int32)), (5, .int l3_79), (0, .ref a0_79), (1, .int l1_79), (2, .int l2_79), (3, .int l3_79)]) dX1_chooseDay_86 (by decide) rfl ?_
    refine r_sub (lv' := [(0, .ref a0_79), (1, .int l1_79), (2, .int l2_79), (5, .int l3_79), (6, .int (0 : Int32)), (7, .int (0 : Int32))]) [3, 4, 5, 2, 1, 0] rfl ?_
    refine whl_K (s0 := ((l3_79, (0 : Int32), (0 : Int32), μ_79) : Int32 × Int32 × Int32 × Mm)) (RR := fun (s88 : Int32 × Int32 × Int32 × Mm) => Rn_X1_chooseDay G (fun v μ' => v = some (.int r.1) ∧ μ' = r.2) 88 [(0, .ref a0_79), (1, .int l1_79), (2, .int l2_79), (5, .int s88.1), (6, .int s88.2.1), (7, .int s88.2.2.1)] [] s88.2.2.2) ?_ (Sat_bindK h)
    intro s88 K88 hI88 hX88 h
    have J160 : ∀ (l5_160 : Int32) (l6_160 : Int32) (l7_160 : Int32) (μ_160 : Mm), Sat (f_X1_chooseDay_J160 a0_79 l1_79 l2_79 l5_160 l6_160 l7_160 μ_160) K88 → Rn_X1_chooseDay G (fun v μ' => v = some (.int r.1) ∧ μ' = r.2) 160 [(0, .ref a0_79), (1, .int l1_79), (2, .int l2_79), (5, .int l5_160), (6, .int l6_160), (7, .int l7_160)] [] μ_160 := by
      intro l5_160 l6_160 l7_160 μ_160 h
      obtain ⟨v160, e160, h⟩ := Sat_bind h
      refine r_iinc (j := 5) (v := v160) (lv' := [(7, .int v160), (0, .ref a0_79), (1, .int l1_79), (2, .int l2_79), (5, .int l5_160), (6, .int l6_160)]) dX1_chooseDay_160 rfl (iinc_v e160 (by decide)) (by decide) rfl ?_
      refine r_goto 88 dX1_chooseDay_163 (by decide) ?_
      exact r_sub [1, 2, 3, 4, 5, 0] rfl (hI88 _ (Sat_some h))
    refine r_iload dX1_chooseDay_88 5 rfl ?_
    refine r_aload_n dX1_chooseDay_90 0 rfl ?_
    obtain ⟨x91, e91, h⟩ := Sat_bind h
    refine r_getP fk_X1_16 rfl e91 dX1_chooseDay_91 ?_
    obtain ⟨x94, e94, h⟩ := Sat_bind h
    refine r_len e94 dX1_chooseDay_94 ?_
    refine r_icmp_ge 166 dX1_chooseDay_95 (by decide) (fun c95 => ?_) (fun c95 => ?_)
    · have h := Sat_pos c95 h
      have h := hX88 _ (Sat_some h)
      refine r_iload dX1_chooseDay_166 3 rfl ?_
      exact r_ireturn rfl (by rw [← Sat_eq h]; exact ⟨rfl, rfl⟩) dX1_chooseDay_168
    · have h := Sat_neg c95 h
      refine r_iload dX1_chooseDay_98 4 rfl ?_
      refine r_aload_n dX1_chooseDay_100 0 rfl ?_
      obtain ⟨x101, e101, h⟩ := Sat_bind h
      refine r_getP fk_X1_16 rfl e101 dX1_chooseDay_101 ?_
      refine r_iload dX1_chooseDay_104 5 rfl ?_
      obtain ⟨x106, e106, h⟩ := Sat_bind h
      refine r_iaload e106 dX1_chooseDay_106 ?_
      refine r_iadd dX1_chooseDay_107 ?_
      obtain ⟨v108, e108, h⟩ := Sat_bind h
      refine r_topi (Option.some.inj e108) ?_
      refine r_istore (lv' := [(6, .int v108), (0, .ref a0_79), (1, .int l1_79), (2, .int l2_79), (5, .int s88.1), (7, .int s88.2.2.1)]) dX1_chooseDay_108 (by decide) rfl ?_
      refine r_iload dX1_chooseDay_110 0 rfl ?_
      refine r_aload_n dX1_chooseDay_112 1 rfl ?_
      obtain ⟨x113, e113, h⟩ := Sat_bind h
      refine r_getI fk_X1_122 rfl e113 dX1_chooseDay_113 ?_
      refine r_iload dX1_chooseDay_116 0 rfl ?_
      refine r_isub dX1_chooseDay_118 ?_
      refine r_mmax mmax_X1_60 mx_st_max mx_ii mx_co_max (Nat.le_of_ble_eq_true rfl) ⟨by decide, by decide⟩ ⟨by decide, by decide⟩ dX1_chooseDay_119 ?_
      obtain ⟨v122, e122, h⟩ := Sat_bind h
      refine r_topi (Option.some.inj e122) ?_
      refine r_istore (lv' := [(8, .int v122), (6, .int v108), (0, .ref a0_79), (1, .int l1_79), (2, .int l2_79), (5, .int s88.1), (7, .int s88.2.2.1)]) dX1_chooseDay_122 (by decide) rfl ?_
      refine r_iload dX1_chooseDay_124 6 rfl ?_
      refine r_iconst (v := 2) dX1_chooseDay_126 (by decide) ?_
      refine r_irem dX1_chooseDay_127 (by decide) ?_
      refine r_if_ne 160 dX1_chooseDay_128 (by decide) (fun c128 => ?_) (fun c128 => ?_)
      · have h := Sat_neg c128 h
        exact r_sub [2, 3, 4, 5, 1, 6] rfl (J160 s88.1 v108 s88.2.2.1 s88.2.2.2 h)
      · have h := Sat_pos c128 h
        refine r_iload dX1_chooseDay_131 0 rfl ?_
        refine r_iload dX1_chooseDay_133 5 rfl ?_
        refine r_icmp_ge 160 dX1_chooseDay_135 (by decide) (fun c135 => ?_) (fun c135 => ?_)
        · have h := Sat_pos c135 h
          exact r_sub [2, 3, 4, 5, 1, 6] rfl (J160 s88.1 v108 s88.2.2.1 s88.2.2.2 h)
        · have h := Sat_neg c135 h
          refine r_iload dX1_chooseDay_138 0 rfl ?_
          refine r_istore (lv' := [(5, .int v122), (8, .int v122), (6, .int v108), (0, .ref a0_79), (1, .int l1_79), (2, .int l2_79), (7, .int s88.2.2.1)]) dX1_chooseDay_140 (by decide) rfl ?_
          refine r_aload_n dX1_chooseDay_142 3 rfl ?_
          refine r_iload_n dX1_chooseDay_143 4 rfl ?_
          obtain ⟨μ144, e144, h⟩ := Sat_bind h
          refine r_putI fk_X1_164 rfl rfl e144 dX1_chooseDay_144 ?_
          refine r_aload_n dX1_chooseDay_147 3 rfl ?_
          refine r_iload_n dX1_chooseDay_148 5 rfl ?_
          obtain ⟨μ149, e149, h⟩ := Sat_bind h
          refine r_putI fk_X1_167 rfl rfl e149 dX1_chooseDay_149 ?_
          refine r_aload_n dX1_chooseDay_152 3 rfl ?_
          refine r_iload dX1_chooseDay_153 6 rfl ?_
          refine r_iconst (v := 2) dX1_chooseDay_155 (by decide) ?_
          refine r_idiv dX1_chooseDay_156 (by decide) ?_
          obtain ⟨μ157, e157, h⟩ := Sat_bind h
          refine r_putI fk_X1_170 rfl rfl e157 dX1_chooseDay_157 ?_
          exact r_sub [3, 4, 5, 0, 2, 6] rfl (J160 v122 v108 s88.2.2.1 μ157 h)
  refine r_aload_n dX1_chooseDay_0 0 rfl ?_
  obtain ⟨x1, e1, h⟩ := Sat_bind h
  refine r_getP fk_X1_16 rfl e1 dX1_chooseDay_1 ?_
  refine r_iconst (v := 0) dX1_chooseDay_4 (by decide) ?_
  obtain ⟨x5, e5, h⟩ := Sat_bind h
  refine r_cS [.ref x1, .int (0 : Int32)] [] (m_J7_fill_53178 x1 (0 : Int32) μ e5) ck_J7_fill_53178 lk_X1_179 st_J7_fill_53178 rfl rfl (Nat.le_of_ble_eq_true rfl) ⟨by decide, by decide⟩ ⟨Nat.zero_le _, Nat.zero_le _⟩ dX1_chooseDay_5 ?_
  refine r_aload_n dX1_chooseDay_8 0 rfl ?_
  refine r_iload_n dX1_chooseDay_9 2 rfl ?_
  obtain ⟨x10, e10, h⟩ := Sat_bind h
  refine r_cV (t := 2) [.int l2] [] (m_X1_lineOf a0 l2 x5 e10) ck_X1_lineOf lk_X1_129 in_X1_lineOf se_X1_lineOf (kd_of e10) ⟨rfl, by decide, by decide⟩ rfl rfl (Nat.le_of_ble_eq_true rfl) ⟨by decide, by decide⟩ ⟨Nat.zero_le _, Nat.zero_le _⟩ dX1_chooseDay_10 ?_
  refine r_astore (lv' := [(4, .ref x10), (0, .ref a0), (1, .int l1), (2, .int l2), (3, .int l3)]) dX1_chooseDay_13 (by decide) rfl ?_
  refine r_iconst (v := 0) dX1_chooseDay_15 (by decide) ?_
  refine r_istore (lv' := [(5, .int (0 : Int32)), (4, .ref x10), (0, .ref a0), (1, .int l1), (2, .int l2), (3, .int l3)]) dX1_chooseDay_16 (by decide) rfl ?_
  refine r_sub (lv' := [(0, .ref a0), (1, .int l1), (2, .int l2), (3, .int l3), (4, .ref x10), (5, .int (0 : Int32))]) [2, 3, 4, 5, 1, 0] rfl ?_
  refine whl_K (s0 := (((0 : Int32), x5) : Int32 × Mm)) (RR := fun (s18 : Int32 × Mm) => Rn_X1_chooseDay G (fun v μ' => v = some (.int r.1) ∧ μ' = r.2) 18 [(0, .ref a0), (1, .int l1), (2, .int l2), (3, .int l3), (4, .ref x10), (5, .int s18.1)] [] s18.2) ?_ (Sat_bindK h)
  intro s18 K18 hI18 hX18 h
  have J73 : ∀ (l5_73 : Int32) (μ_73 : Mm), Sat (f_X1_chooseDay_J73 a0 l1 l2 l3 x10 l5_73 μ_73) K18 → Rn_X1_chooseDay G (fun v μ' => v = some (.int r.1) ∧ μ' = r.2) 73 [(0, .ref a0), (1, .int l1), (2, .int l2), (3, .int l3), (4, .ref x10), (5, .int l5_73)] [] μ_73 := by
    intro l5_73 μ_73 h
    obtain ⟨v73, e73, h⟩ := Sat_bind h
    refine r_iinc (j := 5) (v := v73) (lv' := [(5, .int v73), (0, .ref a0), (1, .int l1), (2, .int l2), (3, .int l3), (4, .ref x10)]) dX1_chooseDay_73 rfl (iinc_v e73 (by decide)) (by decide) rfl ?_
    refine r_goto 18 dX1_chooseDay_76 (by decide) ?_
    exact r_sub [1, 2, 3, 4, 5, 0] rfl (hI18 _ (Sat_some h))
  refine r_iload dX1_chooseDay_18 5 rfl ?_
  refine r_aload_n dX1_chooseDay_20 0 rfl ?_
  obtain ⟨x21, e21, h⟩ := Sat_bind h
  refine r_getI fk_X1_122 rfl e21 dX1_chooseDay_21 ?_
  refine r_icmp_ge 79 dX1_chooseDay_24 (by decide) (fun c24 => ?_) (fun c24 => ?_)
  · have h := Sat_pos c24 h
    have h := hX18 _ (Sat_some h)
    exact r_sub [0, 1, 2, 3] rfl (J79 a0 l1 l2 l3 s18.2 h)
  · have h := Sat_neg c24 h
    refine r_iload dX1_chooseDay_27 5 rfl ?_
    refine r_aload_n dX1_chooseDay_29 0 rfl ?_
    obtain ⟨x30, e30, h⟩ := Sat_bind h
    refine r_getP fk_X1_28 rfl e30 dX1_chooseDay_30 ?_
    obtain ⟨x33, e33, h⟩ := Sat_bind h
    refine r_len e33 dX1_chooseDay_33 ?_
    refine r_icmp_ge 79 dX1_chooseDay_34 (by decide) (fun c34 => ?_) (fun c34 => ?_)
    · have h := Sat_pos c34 h
      have h := hX18 _ (Sat_some h)
      exact r_sub [0, 1, 2, 3] rfl (J79 a0 l1 l2 l3 s18.2 h)
    · have h := Sat_neg c34 h
      refine r_aload dX1_chooseDay_37 4 rfl ?_
      refine r_aload_n dX1_chooseDay_39 0 rfl ?_
      obtain ⟨x40, e40, h⟩ := Sat_bind h
      refine r_getP fk_X1_28 rfl e40 dX1_chooseDay_40 ?_
      refine r_iload dX1_chooseDay_43 5 rfl ?_
      obtain ⟨x45, e45, h⟩ := Sat_bind h
      refine r_iaload e45 dX1_chooseDay_45 ?_
      refine r_iload_n dX1_chooseDay_46 1 rfl ?_
      obtain ⟨x47, e47, h⟩ := Sat_bind h
      refine r_cS [.ref x10, .int x45, .int l1] [] (m_X1_momentIn x10 x45 l1 s18.2 e47) ck_X1_momentIn lk_X1_136 st_X1_momentIn rfl rfl (Nat.le_of_ble_eq_true rfl) ⟨by decide, by decide⟩ ⟨Nat.zero_le _, Nat.zero_le _⟩ dX1_chooseDay_47 ?_
      refine r_istore (lv' := [(6, .int x47), (0, .ref a0), (1, .int l1), (2, .int l2), (3, .int l3), (4, .ref x10), (5, .int s18.1)]) dX1_chooseDay_50 (by decide) rfl ?_
      refine r_iload dX1_chooseDay_52 0 rfl ?_
      refine r_aload_n dX1_chooseDay_54 1 rfl ?_
      obtain ⟨x55, e55, h⟩ := Sat_bind h
      refine r_getP fk_X1_16 rfl e55 dX1_chooseDay_55 ?_
      obtain ⟨x58, e58, h⟩ := Sat_bind h
      refine r_len e58 dX1_chooseDay_58 ?_
      refine r_icmp_ge 73 dX1_chooseDay_59 (by decide) (fun c59 => ?_) (fun c59 => ?_)
      · have h := Sat_pos c59 h
        exact r_sub [1, 2, 3, 4, 5, 6] rfl (J73 s18.1 s18.2 h)
      · have h := Sat_neg c59 h
        refine r_aload_n dX1_chooseDay_62 1 rfl ?_
        obtain ⟨x63, e63, h⟩ := Sat_bind h
        refine r_getP fk_X1_16 rfl e63 dX1_chooseDay_63 ?_
        refine r_iload dX1_chooseDay_66 0 rfl ?_
        refine r_dup2_11 dX1_chooseDay_68 rfl rfl ?_
        obtain ⟨x69, e69, h⟩ := Sat_bind h
        refine r_iaload e69 dX1_chooseDay_69 ?_
        refine r_iconst (v := 1) dX1_chooseDay_70 (by decide) ?_
        refine r_iadd dX1_chooseDay_71 ?_
        obtain ⟨μ72, e72, h⟩ := Sat_bind h
        refine r_iastore e72 dX1_chooseDay_72 ?_
        exact r_sub [1, 2, 3, 4, 5, 6] rfl (J73 s18.1 μ72 h)
