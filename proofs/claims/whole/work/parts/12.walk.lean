theorem dX10_go_0 : decode cX10_go 0 = .ok (.iload_n 1, 1) := by decide +kernel
theorem dX10_go_1 : decode cX10_go 1 = .ok (.ifCond .lt 10, 3) := by decide +kernel
theorem dX10_go_4 : decode cX10_go 4 = .ok (.iload_n 1, 1) := by decide +kernel
theorem dX10_go_5 : decode cX10_go 5 = .ok (.sipush 200, 3) := by decide +kernel
theorem dX10_go_8 : decode cX10_go 8 = .ok (.if_icmp .le 6, 3) := by decide +kernel
theorem dX10_go_11 : decode cX10_go 11 = .ok (.bipush (-2), 2) := by decide +kernel
theorem dX10_go_13 : decode cX10_go 13 = .ok (.ireturn, 1) := by decide +kernel
theorem dX10_go_14 : decode cX10_go 14 = .ok (.aload_n 0, 1) := by decide +kernel
theorem dX10_go_15 : decode cX10_go 15 = .ok (.getfield 35, 3) := by decide +kernel
theorem dX10_go_18 : decode cX10_go 18 = .ok (.getfield 125, 3) := by decide +kernel
theorem dX10_go_21 : decode cX10_go 21 = .ok (.ifCond .ne 6, 3) := by decide +kernel
theorem dX10_go_24 : decode cX10_go 24 = .ok (.bipush (-4), 2) := by decide +kernel
theorem dX10_go_26 : decode cX10_go 26 = .ok (.ireturn, 1) := by decide +kernel
theorem dX10_go_27 : decode cX10_go 27 = .ok (.aload_n 0, 1) := by decide +kernel
theorem dX10_go_28 : decode cX10_go 28 = .ok (.getfield 35, 3) := by decide +kernel
theorem dX10_go_31 : decode cX10_go 31 = .ok (.iload_n 1, 1) := by decide +kernel
theorem dX10_go_32 : decode cX10_go 32 = .ok (.aload_n 0, 1) := by decide +kernel
theorem dX10_go_33 : decode cX10_go 33 = .ok (.getfield 63, 3) := by decide +kernel
theorem dX10_go_36 : decode cX10_go 36 = .ok (.aload_n 0, 1) := by decide +kernel
theorem dX10_go_37 : decode cX10_go 37 = .ok (.getfield 84, 3) := by decide +kernel
theorem dX10_go_40 : decode cX10_go 40 = .ok (.invokevirtual 418, 3) := by decide +kernel
theorem dX10_go_43 : decode cX10_go 43 = .ok (.aload_n 0, 1) := by decide +kernel
theorem dX10_go_44 : decode cX10_go 44 = .ok (.getfield 35, 3) := by decide +kernel
theorem dX10_go_47 : decode cX10_go 47 = .ok (.getfield 422, 3) := by decide +kernel
theorem dX10_go_50 : decode cX10_go 50 = .ok (.ireturn, 1) := by decide +kernel
noncomputable def f_X10_go (a0 : Nat) (l1 : Int32) (μ : Mm) : Option (Int32 × Mm) :=
  if (mm_K μ a0).1 = 11 then if l1 < 0 then some ((-2 : Int32), μ) else if l1 ≤ (200 : Int32) then (gf_P 11 6 a0 μ).bind fun x15 => (gf_I 4 1 x15 μ).bind fun x18 => if x18 = 0 then some ((-4 : Int32), μ) else (gf_P 11 6 a0 μ).bind fun x28 => (gf_P 11 13 a0 μ).bind fun x33 => (gf_P 11 3 a0 μ).bind fun x37 => (f_X3_pass x28 l1 x33 x37 μ).bind fun x40 => (gf_P 11 6 a0 x40).bind fun x44 => (gf_I 4 4 x44 x40).bind fun x47 => some (x47, x40) else some ((-2 : Int32), μ) else none
abbrev Rn_X10_go (G : Gv) (Q : Option Value → Mm → Prop) (pc : Nat) (lv : List (Nat × Value)) (st : List Value) (μ : Mm) : Prop := Rn G RX10 cX10_go 2 (some .int) "go" (rmd 3 0 0) (Zm G 0 0 Q) 0 0 pc lv st μ
set_option maxRecDepth 100000 in
set_option maxHeartbeats 4000000 in
theorem m_X10_go {G : Gv} (a0 : Nat) (l1 : Int32) (μ : Mm) {r : (Int32 × Mm)} (hx : f_X10_go a0 l1 μ = some r) : Mt G yX10_go cX10_go 2 (some .int) 3 0 0 [.ref a0, .int l1] μ (fun v μ' => v = some (.int r.1) ∧ μ' = r.2) := by
  refine Mt.of (by decide) (Nat.le_of_ble_eq_true rfl) ?_
  show Rn_X10_go G (fun v μ' => v = some (.int r.1) ∧ μ' = r.2) 0 [(0, .ref a0), (1, .int l1)] [] μ
  obtain ⟨_, h⟩ := Sat_ifp (show Sat (f_X10_go a0 l1 μ) (fun x => x = r) from ⟨_, hx, rfl⟩)
  refine r_iload_n dX10_go_0 1 rfl ?_
  refine r_if_lt 11 dX10_go_1 (by decide) (fun c1 => ?_) (fun c1 => ?_)
  · have h := Sat_pos c1 h
    refine r_bipush (v := -2) dX10_go_11 (by decide) ?_
    exact r_ireturn rfl (by rw [← Sat_eq h]; exact ⟨rfl, rfl⟩) dX10_go_13
  · have h := Sat_neg c1 h
    refine r_iload_n dX10_go_4 1 rfl ?_
    refine r_sipush (v := 200) dX10_go_5 (by decide) ?_
    refine r_icmp_le 14 dX10_go_8 (by decide) (fun c8 => ?_) (fun c8 => ?_)
    · have h := Sat_pos c8 h
      refine r_aload_n dX10_go_14 0 rfl ?_
      obtain ⟨x15, e15, h⟩ := Sat_bind h
      refine r_getP fk_X10_35 rfl e15 dX10_go_15 ?_
      obtain ⟨x18, e18, h⟩ := Sat_bind h
      refine r_getI fk_X10_125 rfl e18 dX10_go_18 ?_
      refine r_if_ne 27 dX10_go_21 (by decide) (fun c21 => ?_) (fun c21 => ?_)
      · have h := Sat_neg c21 h
        refine r_aload_n dX10_go_27 0 rfl ?_
        obtain ⟨x28, e28, h⟩ := Sat_bind h
        refine r_getP fk_X10_35 rfl e28 dX10_go_28 ?_
        refine r_iload_n dX10_go_31 1 rfl ?_
        refine r_aload_n dX10_go_32 0 rfl ?_
        obtain ⟨x33, e33, h⟩ := Sat_bind h
        refine r_getP fk_X10_63 rfl e33 dX10_go_33 ?_
        refine r_aload_n dX10_go_36 0 rfl ?_
        obtain ⟨x37, e37, h⟩ := Sat_bind h
        refine r_getP fk_X10_84 rfl e37 dX10_go_37 ?_
        obtain ⟨x40, e40, h⟩ := Sat_bind h
        refine r_cV (t := 4) [.int l1, .ref x33, .ref x37] [] (m_X3_pass x28 l1 x33 x37 μ e40) ck_X3_pass lk_X10_418 in_X3_pass se_X3_pass (kd_of e40) ⟨rfl, by decide, by decide⟩ rfl rfl (Nat.le_of_ble_eq_true rfl) ⟨by decide, by decide⟩ ⟨Nat.zero_le _, Nat.zero_le _⟩ dX10_go_40 ?_
        refine r_aload_n dX10_go_43 0 rfl ?_
        obtain ⟨x44, e44, h⟩ := Sat_bind h
        refine r_getP fk_X10_35 rfl e44 dX10_go_44 ?_
        obtain ⟨x47, e47, h⟩ := Sat_bind h
        refine r_getI fk_X10_422 rfl e47 dX10_go_47 ?_
        exact r_ireturn rfl (by rw [← Sat_eq h]; exact ⟨rfl, rfl⟩) dX10_go_50
      · have h := Sat_pos c21 h
        refine r_bipush (v := -4) dX10_go_24 (by decide) ?_
        exact r_ireturn rfl (by rw [← Sat_eq h]; exact ⟨rfl, rfl⟩) dX10_go_26
    · have h := Sat_neg c8 h
      refine r_bipush (v := -2) dX10_go_11 (by decide) ?_
      exact r_ireturn rfl (by rw [← Sat_eq h]; exact ⟨rfl, rfl⟩) dX10_go_13
theorem dX10_greatestDivisor_0 : decode cX10_greatestDivisor 0 = .ok (.iload_n 0, 1) := by decide +kernel
theorem dX10_greatestDivisor_1 : decode cX10_greatestDivisor 1 = .ok (.istore_n 2, 1) := by decide +kernel
theorem dX10_greatestDivisor_2 : decode cX10_greatestDivisor 2 = .ok (.iload_n 1, 1) := by decide +kernel
theorem dX10_greatestDivisor_3 : decode cX10_greatestDivisor 3 = .ok (.istore_n 3, 1) := by decide +kernel
theorem dX10_greatestDivisor_4 : decode cX10_greatestDivisor 4 = .ok (.iconst 0, 1) := by decide +kernel
theorem dX10_greatestDivisor_5 : decode cX10_greatestDivisor 5 = .ok (.istore 4, 2) := by decide +kernel
theorem dX10_greatestDivisor_7 : decode cX10_greatestDivisor 7 = .ok (.iload 4, 2) := by decide +kernel
theorem dX10_greatestDivisor_9 : decode cX10_greatestDivisor 9 = .ok (.bipush 64, 2) := by decide +kernel
theorem dX10_greatestDivisor_11 : decode cX10_greatestDivisor 11 = .ok (.if_icmp .ge 23, 3) := by decide +kernel
theorem dX10_greatestDivisor_14 : decode cX10_greatestDivisor 14 = .ok (.iload_n 3, 1) := by decide +kernel
theorem dX10_greatestDivisor_15 : decode cX10_greatestDivisor 15 = .ok (.ifCond .le 19, 3) := by decide +kernel
theorem dX10_greatestDivisor_18 : decode cX10_greatestDivisor 18 = .ok (.iload_n 2, 1) := by decide +kernel
theorem dX10_greatestDivisor_19 : decode cX10_greatestDivisor 19 = .ok (.iload_n 3, 1) := by decide +kernel
theorem dX10_greatestDivisor_20 : decode cX10_greatestDivisor 20 = .ok (.irem, 1) := by decide +kernel
theorem dX10_greatestDivisor_21 : decode cX10_greatestDivisor 21 = .ok (.istore 5, 2) := by decide +kernel
theorem dX10_greatestDivisor_23 : decode cX10_greatestDivisor 23 = .ok (.iload_n 3, 1) := by decide +kernel
theorem dX10_greatestDivisor_24 : decode cX10_greatestDivisor 24 = .ok (.istore_n 2, 1) := by decide +kernel
theorem dX10_greatestDivisor_25 : decode cX10_greatestDivisor 25 = .ok (.iload 5, 2) := by decide +kernel
theorem dX10_greatestDivisor_27 : decode cX10_greatestDivisor 27 = .ok (.istore_n 3, 1) := by decide +kernel
theorem dX10_greatestDivisor_28 : decode cX10_greatestDivisor 28 = .ok (.iinc 4 1, 3) := by decide +kernel
theorem dX10_greatestDivisor_31 : decode cX10_greatestDivisor 31 = .ok (.goto (-24), 3) := by decide +kernel
theorem dX10_greatestDivisor_34 : decode cX10_greatestDivisor 34 = .ok (.iload_n 2, 1) := by decide +kernel
theorem dX10_greatestDivisor_35 : decode cX10_greatestDivisor 35 = .ok (.ireturn, 1) := by decide +kernel
noncomputable def f_X10_greatestDivisor_L7  (μ : Mm) (s7 : Int32 × Int32 × Int32) : Option ((Int32 × Int32 × Int32) ⊕ (Int32)) :=
  if (64 : Int32) ≤ s7.2.2 then some (.inr s7.1) else if s7.2.1 ≤ 0 then some (.inr s7.1) else if s7.2.1 = 0 then none else (some (s7.1 - s7.1 / s7.2.1 * s7.2.1)).bind fun v21 => (some (s7.2.2 + (1 : Int32))).bind fun v28 => some (.inl (s7.2.1, v21, v28))
noncomputable def f_X10_greatestDivisor (l0 : Int32) (l1 : Int32) (μ : Mm) : Option Int32 :=
  (whl (f_X10_greatestDivisor_L7 μ) (l0, l1, (0 : Int32))).bind (fun b7 => some b7)
abbrev Rn_X10_greatestDivisor (G : Gv) (Q : Option Value → Mm → Prop) (pc : Nat) (lv : List (Nat × Value)) (st : List Value) (μ : Mm) : Prop := Rn G RX10 cX10_greatestDivisor 6 (some .int) "greatestDivisor" (rmd 0 0 0) (Zm G 0 0 Q) 0 0 pc lv st μ
set_option maxRecDepth 100000 in
set_option maxHeartbeats 4000000 in
theorem m_X10_greatestDivisor {G : Gv} (l0 : Int32) (l1 : Int32) (μ : Mm) {r : Int32} (hx : f_X10_greatestDivisor l0 l1 μ = some r) : Mt G yX10_greatestDivisor cX10_greatestDivisor 6 (some .int) 0 0 0 [.int l0, .int l1] μ (fun v μ' => v = some (.int r) ∧ μ' = μ) := by
  refine Mt.of (by decide) (Nat.le_of_ble_eq_true rfl) ?_
  show Rn_X10_greatestDivisor G (fun v μ' => v = some (.int r) ∧ μ' = μ) 0 [(0, .int l0), (1, .int l1)] [] μ
  have h : Sat (f_X10_greatestDivisor l0 l1 μ) (fun x => x = r) := ⟨_, hx, rfl⟩
  refine r_iload_n dX10_greatestDivisor_0 0 rfl ?_
  refine r_istore_n (lv' := [(2, .int l0), (0, .int l0), (1, .int l1)]) dX10_greatestDivisor_1 rfl (by decide) rfl ?_
  refine r_iload_n dX10_greatestDivisor_2 2 rfl ?_
  refine r_istore_n (lv' := [(3, .int l1), (2, .int l0), (0, .int l0), (1, .int l1)]) dX10_greatestDivisor_3 rfl (by decide) rfl ?_
  refine r_iconst (v := 0) dX10_greatestDivisor_4 (by decide) ?_
  refine r_istore (lv' := [(4, .int (0 : Int32)), (3, .int l1), (2, .int l0), (0, .int l0), (1, .int l1)]) dX10_greatestDivisor_5 (by decide) rfl ?_
  refine r_sub (lv' := [(2, .int l0), (3, .int l1), (4, .int (0 : Int32))]) [2, 1, 0] rfl ?_
  refine whl_K (s0 := ((l0, l1, (0 : Int32)) : Int32 × Int32 × Int32)) (RR := fun (s7 : Int32 × Int32 × Int32) => Rn_X10_greatestDivisor G (fun v μ' => v = some (.int r) ∧ μ' = μ) 7 [(2, .int s7.1), (3, .int s7.2.1), (4, .int s7.2.2)] [] μ) ?_ (Sat_bindK h)
  intro s7 K7 hI7 hX7 h
  refine r_iload dX10_greatestDivisor_7 2 rfl ?_
  refine r_bipush (v := 64) dX10_greatestDivisor_9 (by decide) ?_
  refine r_icmp_ge 34 dX10_greatestDivisor_11 (by decide) (fun c11 => ?_) (fun c11 => ?_)
  · have h := Sat_pos c11 h
    have h := hX7 _ (Sat_some h)
    refine r_iload_n dX10_greatestDivisor_34 0 rfl ?_
    exact r_ireturn rfl (by rw [← Sat_eq h]; exact ⟨rfl, rfl⟩) dX10_greatestDivisor_35
  · have h := Sat_neg c11 h
    refine r_iload_n dX10_greatestDivisor_14 1 rfl ?_
    refine r_if_le 34 dX10_greatestDivisor_15 (by decide) (fun c15 => ?_) (fun c15 => ?_)
    · have h := Sat_pos c15 h
      have h := hX7 _ (Sat_some h)
      refine r_iload_n dX10_greatestDivisor_34 0 rfl ?_
      exact r_ireturn rfl (by rw [← Sat_eq h]; exact ⟨rfl, rfl⟩) dX10_greatestDivisor_35
    · have h := Sat_neg c15 h
      refine r_iload_n dX10_greatestDivisor_18 0 rfl ?_
      refine r_iload_n dX10_greatestDivisor_19 1 rfl ?_
      obtain ⟨z20, h⟩ := Sat_ifn h
      refine r_irem dX10_greatestDivisor_20 z20 ?_
      obtain ⟨v21, e21, h⟩ := Sat_bind h
      refine r_topi (Option.some.inj e21) ?_
      refine r_istore (lv' := [(5, .int v21), (2, .int s7.1), (3, .int s7.2.1), (4, .int s7.2.2)]) dX10_greatestDivisor_21 (by decide) rfl ?_
      refine r_iload_n dX10_greatestDivisor_23 2 rfl ?_
      refine r_istore_n (lv' := [(2, .int s7.2.1), (5, .int v21), (3, .int s7.2.1), (4, .int s7.2.2)]) dX10_greatestDivisor_24 rfl (by decide) rfl ?_
      refine r_iload dX10_greatestDivisor_25 1 rfl ?_
      refine r_istore_n (lv' := [(3, .int v21), (2, .int s7.2.1), (5, .int v21), (4, .int s7.2.2)]) dX10_greatestDivisor_27 rfl (by decide) rfl ?_
      obtain ⟨v28, e28, h⟩ := Sat_bind h
      refine r_iinc (j := 3) (v := v28) (lv' := [(4, .int v28), (3, .int v21), (2, .int s7.2.1), (5, .int v21)]) dX10_greatestDivisor_28 rfl (iinc_v e28 (by decide)) (by decide) rfl ?_
      refine r_goto 7 dX10_greatestDivisor_31 (by decide) ?_
      exact r_sub [2, 1, 0] rfl (hI7 _ (Sat_some h))
theorem dX10_ringOf_0 : decode cX10_ringOf 0 = .ok (.iconst 0, 1) := by decide +kernel
theorem dX10_ringOf_1 : decode cX10_ringOf 1 = .ok (.istore_n 2, 1) := by decide +kernel
theorem dX10_ringOf_2 : decode cX10_ringOf 2 = .ok (.iload_n 1, 1) := by decide +kernel
theorem dX10_ringOf_3 : decode cX10_ringOf 3 = .ok (.istore_n 3, 1) := by decide +kernel
theorem dX10_ringOf_4 : decode cX10_ringOf 4 = .ok (.iconst 0, 1) := by decide +kernel
theorem dX10_ringOf_5 : decode cX10_ringOf 5 = .ok (.istore 4, 2) := by decide +kernel
theorem dX10_ringOf_7 : decode cX10_ringOf 7 = .ok (.iload 4, 2) := by decide +kernel
theorem dX10_ringOf_9 : decode cX10_ringOf 9 = .ok (.bipush 8, 2) := by decide +kernel
theorem dX10_ringOf_11 : decode cX10_ringOf 11 = .ok (.if_icmp .ge 29, 3) := by decide +kernel
theorem dX10_ringOf_14 : decode cX10_ringOf 14 = .ok (.iload_n 3, 1) := by decide +kernel
theorem dX10_ringOf_15 : decode cX10_ringOf 15 = .ok (.iconst (-1), 1) := by decide +kernel
theorem dX10_ringOf_16 : decode cX10_ringOf 16 = .ok (.if_icmp .eq 24, 3) := by decide +kernel
theorem dX10_ringOf_19 : decode cX10_ringOf 19 = .ok (.iload_n 2, 1) := by decide +kernel
theorem dX10_ringOf_20 : decode cX10_ringOf 20 = .ok (.iconst 1, 1) := by decide +kernel
theorem dX10_ringOf_21 : decode cX10_ringOf 21 = .ok (.iload_n 3, 1) := by decide +kernel
theorem dX10_ringOf_22 : decode cX10_ringOf 22 = .ok (.ishl, 1) := by decide +kernel
theorem dX10_ringOf_23 : decode cX10_ringOf 23 = .ok (.ior, 1) := by decide +kernel
theorem dX10_ringOf_24 : decode cX10_ringOf 24 = .ok (.istore_n 2, 1) := by decide +kernel
theorem dX10_ringOf_25 : decode cX10_ringOf 25 = .ok (.aload_n 0, 1) := by decide +kernel
theorem dX10_ringOf_26 : decode cX10_ringOf 26 = .ok (.getfield 116, 3) := by decide +kernel
theorem dX10_ringOf_29 : decode cX10_ringOf 29 = .ok (.iload_n 3, 1) := by decide +kernel
theorem dX10_ringOf_30 : decode cX10_ringOf 30 = .ok (.invokestatic 199, 3) := by decide +kernel
theorem dX10_ringOf_33 : decode cX10_ringOf 33 = .ok (.istore_n 3, 1) := by decide +kernel
theorem dX10_ringOf_34 : decode cX10_ringOf 34 = .ok (.iinc 4 1, 3) := by decide +kernel
theorem dX10_ringOf_37 : decode cX10_ringOf 37 = .ok (.goto (-30), 3) := by decide +kernel
theorem dX10_ringOf_40 : decode cX10_ringOf 40 = .ok (.iload_n 2, 1) := by decide +kernel
theorem dX10_ringOf_41 : decode cX10_ringOf 41 = .ok (.ireturn, 1) := by decide +kernel
noncomputable def f_X10_ringOf_L7 (a0 : Nat) (μ : Mm) (s7 : Int32 × Int32 × Int32) : Option ((Int32 × Int32 × Int32) ⊕ (Int32)) :=
  if (8 : Int32) ≤ s7.2.2 then some (.inr s7.1) else if s7.2.1 = (-1 : Int32) then some (.inr s7.1) else (some (s7.1 ||| ((1 : Int32) <<< (s7.2.1 &&& 31)))).bind fun v24 => (gf_I 11 15 a0 μ).bind fun x26 => (f_X9_dreamOf x26 s7.2.1 μ).bind fun x30 => (some (s7.2.2 + (1 : Int32))).bind fun v34 => some (.inl (v24, x30, v34))
noncomputable def f_X10_ringOf (a0 : Nat) (l1 : Int32) (μ : Mm) : Option Int32 :=
  if (mm_K μ a0).1 = 11 then (whl (f_X10_ringOf_L7 a0 μ) ((0 : Int32), l1, (0 : Int32))).bind (fun b7 => some b7) else none
abbrev Rn_X10_ringOf (G : Gv) (Q : Option Value → Mm → Prop) (pc : Nat) (lv : List (Nat × Value)) (st : List Value) (μ : Mm) : Prop := Rn G RX10 cX10_ringOf 5 (some .int) "ringOf" (rmd 1 0 0) (Zm G 0 0 Q) 0 0 pc lv st μ
set_option maxRecDepth 100000 in
set_option maxHeartbeats 4000000 in
theorem m_X10_ringOf {G : Gv} (a0 : Nat) (l1 : Int32) (μ : Mm) {r : Int32} (hx : f_X10_ringOf a0 l1 μ = some r) : Mt G yX10_ringOf cX10_ringOf 5 (some .int) 1 0 0 [.ref a0, .int l1] μ (fun v μ' => v = some (.int r) ∧ μ' = μ) := by
  refine Mt.of (by decide) (Nat.le_of_ble_eq_true rfl) ?_
  show Rn_X10_ringOf G (fun v μ' => v = some (.int r) ∧ μ' = μ) 0 [(0, .ref a0), (1, .int l1)] [] μ
  obtain ⟨_, h⟩ := Sat_ifp (show Sat (f_X10_ringOf a0 l1 μ) (fun x => x = r) from ⟨_, hx, rfl⟩)
  refine r_iconst (v := 0) dX10_ringOf_0 (by decide) ?_
  refine r_istore_n (lv' := [(2, .int (0 : Int32)), (0, .ref a0), (1, .int l1)]) dX10_ringOf_1 rfl (by decide) rfl ?_
  refine r_iload_n dX10_ringOf_2 2 rfl ?_
  refine r_istore_n (lv' := [(3, .int l1), (2, .int (0 : Int32)), (0, .ref a0), (1, .int l1)]) dX10_ringOf_3 rfl (by decide) rfl ?_
  refine r_iconst (v := 0) dX10_ringOf_4 (by decide) ?_
  refine r_istore (lv' := [(4, .int (0 : Int32)), (3, .int l1), (2, .int (0 : Int32)), (0, .ref a0), (1, .int l1)]) dX10_ringOf_5 (by decide) rfl ?_
  refine r_sub (lv' := [(0, .ref a0), (2, .int (0 : Int32)), (3, .int l1), (4, .int (0 : Int32))]) [3, 2, 1, 0] rfl ?_
  refine whl_K (s0 := (((0 : Int32), l1, (0 : Int32)) : Int32 × Int32 × Int32)) (RR := fun (s7 : Int32 × Int32 × Int32) => Rn_X10_ringOf G (fun v μ' => v = some (.int r) ∧ μ' = μ) 7 [(0, .ref a0), (2, .int s7.1), (3, .int s7.2.1), (4, .int s7.2.2)] [] μ) ?_ (Sat_bindK h)
  intro s7 K7 hI7 hX7 h
  refine r_iload dX10_ringOf_7 3 rfl ?_
  refine r_bipush (v := 8) dX10_ringOf_9 (by decide) ?_
  refine r_icmp_ge 40 dX10_ringOf_11 (by decide) (fun c11 => ?_) (fun c11 => ?_)
  · have h := Sat_pos c11 h
    have h := hX7 _ (Sat_some h)
    refine r_iload_n dX10_ringOf_40 1 rfl ?_
    exact r_ireturn rfl (by rw [← Sat_eq h]; exact ⟨rfl, rfl⟩) dX10_ringOf_41
  · have h := Sat_neg c11 h
    refine r_iload_n dX10_ringOf_14 2 rfl ?_
    refine r_iconst (v := -1) dX10_ringOf_15 (by decide) ?_
    refine r_icmp_eq 40 dX10_ringOf_16 (by decide) (fun c16 => ?_) (fun c16 => ?_)
    · have h := Sat_pos c16 h
      have h := hX7 _ (Sat_some h)
      refine r_iload_n dX10_ringOf_40 1 rfl ?_
      exact r_ireturn rfl (by rw [← Sat_eq h]; exact ⟨rfl, rfl⟩) dX10_ringOf_41
    · have h := Sat_neg c16 h
      refine r_iload_n dX10_ringOf_19 1 rfl ?_
      refine r_iconst (v := 1) dX10_ringOf_20 (by decide) ?_
      refine r_iload_n dX10_ringOf_21 2 rfl ?_
      refine r_ishl dX10_ringOf_22 ?_
      refine r_ior dX10_ringOf_23 ?_
      obtain ⟨v24, e24, h⟩ := Sat_bind h
      refine r_topi (Option.some.inj e24) ?_
      refine r_istore_n (lv' := [(2, .int v24), (0, .ref a0), (3, .int s7.2.1), (4, .int s7.2.2)]) dX10_ringOf_24 rfl (by decide) rfl ?_
      refine r_aload_n dX10_ringOf_25 1 rfl ?_
      obtain ⟨x26, e26, h⟩ := Sat_bind h
      refine r_getI fk_X10_116 rfl e26 dX10_ringOf_26 ?_
      refine r_iload_n dX10_ringOf_29 2 rfl ?_
      obtain ⟨x30, e30, h⟩ := Sat_bind h
      refine r_cS [.int x26, .int s7.2.1] [] (m_X9_dreamOf x26 s7.2.1 μ e30) ck_X9_dreamOf lk_X10_199 st_X9_dreamOf rfl rfl (Nat.le_of_ble_eq_true rfl) ⟨by decide, by decide⟩ ⟨Nat.zero_le _, Nat.zero_le _⟩ dX10_ringOf_30 ?_
      refine r_istore_n (lv' := [(3, .int x30), (2, .int v24), (0, .ref a0), (4, .int s7.2.2)]) dX10_ringOf_33 rfl (by decide) rfl ?_
      obtain ⟨v34, e34, h⟩ := Sat_bind h
      refine r_iinc (j := 3) (v := v34) (lv' := [(4, .int v34), (3, .int x30), (2, .int v24), (0, .ref a0)]) dX10_ringOf_34 rfl (iinc_v e34 (by decide)) (by decide) rfl ?_
      refine r_goto 7 dX10_ringOf_37 (by decide) ?_
      exact r_sub [3, 2, 1, 0] rfl (hI7 _ (Sat_some h))
theorem dX7_isAlone_0 : decode cX7_isAlone 0 = .ok (.aload_n 0, 1) := by decide +kernel
theorem dX7_isAlone_1 : decode cX7_isAlone 1 = .ok (.getfield 54, 3) := by decide +kernel
theorem dX7_isAlone_4 : decode cX7_isAlone 4 = .ok (.iload_n 1, 1) := by decide +kernel
theorem dX7_isAlone_5 : decode cX7_isAlone 5 = .ok (.ishr, 1) := by decide +kernel
theorem dX7_isAlone_6 : decode cX7_isAlone 6 = .ok (.iconst 1, 1) := by decide +kernel
theorem dX7_isAlone_7 : decode cX7_isAlone 7 = .ok (.iand, 1) := by decide +kernel
theorem dX7_isAlone_8 : decode cX7_isAlone 8 = .ok (.ifCond .eq 7, 3) := by decide +kernel
theorem dX7_isAlone_11 : decode cX7_isAlone 11 = .ok (.iconst 1, 1) := by decide +kernel
theorem dX7_isAlone_12 : decode cX7_isAlone 12 = .ok (.goto 4, 3) := by decide +kernel
theorem dX7_isAlone_15 : decode cX7_isAlone 15 = .ok (.iconst 0, 1) := by decide +kernel
theorem dX7_isAlone_16 : decode cX7_isAlone 16 = .ok (.ireturn, 1) := by decide +kernel
noncomputable def f_X7_isAlone (a0 : Nat) (l1 : Int32) (μ : Mm) : Option Int32 :=
  if (mm_K μ a0).1 = 8 then (gf_I 8 10 a0 μ).bind fun x1 => if ((x1 >>> (l1 &&& 31)) &&& (1 : Int32)) = 0 then some (0 : Int32) else some (1 : Int32) else none
abbrev Rn_X7_isAlone (G : Gv) (Q : Option Value → Mm → Prop) (pc : Nat) (lv : List (Nat × Value)) (st : List Value) (μ : Mm) : Prop := Rn G RX7 cX7_isAlone 2 (some .boolean) "isAlone" (rmd 0 0 0) (Zm G 0 0 Q) 0 0 pc lv st μ
set_option maxRecDepth 100000 in
set_option maxHeartbeats 4000000 in
theorem m_X7_isAlone {G : Gv} (a0 : Nat) (l1 : Int32) (μ : Mm) {r : Int32} (hx : f_X7_isAlone a0 l1 μ = some r) : Mt G yX7_isAlone cX7_isAlone 2 (some .boolean) 0 0 0 [.ref a0, .int l1] μ (fun v μ' => v = some (.int r) ∧ μ' = μ) := by
  refine Mt.of (by decide) (Nat.le_of_ble_eq_true rfl) ?_
  show Rn_X7_isAlone G (fun v μ' => v = some (.int r) ∧ μ' = μ) 0 [(0, .ref a0), (1, .int l1)] [] μ
  obtain ⟨_, h⟩ := Sat_ifp (show Sat (f_X7_isAlone a0 l1 μ) (fun x => x = r) from ⟨_, hx, rfl⟩)
  refine r_aload_n dX7_isAlone_0 0 rfl ?_
  obtain ⟨x1, e1, h⟩ := Sat_bind h
  refine r_getI fk_X7_54 rfl e1 dX7_isAlone_1 ?_
  refine r_iload_n dX7_isAlone_4 1 rfl ?_
  refine r_ishr dX7_isAlone_5 ?_
  refine r_iconst (v := 1) dX7_isAlone_6 (by decide) ?_
  refine r_iand dX7_isAlone_7 ?_
  refine r_if_eq 15 dX7_isAlone_8 (by decide) (fun c8 => ?_) (fun c8 => ?_)
  · have h := Sat_pos c8 h
    refine r_iconst (v := 0) dX7_isAlone_15 (by decide) ?_
    exact r_zreturn rfl (by decide) (by rw [← Sat_eq h]; exact ⟨rfl, rfl⟩) dX7_isAlone_16
  · have h := Sat_neg c8 h
    refine r_iconst (v := 1) dX7_isAlone_11 (by decide) ?_
    refine r_goto 16 dX7_isAlone_12 (by decide) ?_
    exact r_zreturn rfl (by decide) (by rw [← Sat_eq h]; exact ⟨rfl, rfl⟩) dX7_isAlone_16
theorem dX10_howManyRings_0 : decode cX10_howManyRings 0 = .ok (.iconst 0, 1) := by decide +kernel
theorem dX10_howManyRings_1 : decode cX10_howManyRings 1 = .ok (.istore_n 1, 1) := by decide +kernel
theorem dX10_howManyRings_2 : decode cX10_howManyRings 2 = .ok (.iconst 0, 1) := by decide +kernel
theorem dX10_howManyRings_3 : decode cX10_howManyRings 3 = .ok (.istore_n 2, 1) := by decide +kernel
theorem dX10_howManyRings_4 : decode cX10_howManyRings 4 = .ok (.iconst 0, 1) := by decide +kernel
theorem dX10_howManyRings_5 : decode cX10_howManyRings 5 = .ok (.istore_n 3, 1) := by decide +kernel
theorem dX10_howManyRings_6 : decode cX10_howManyRings 6 = .ok (.iload_n 3, 1) := by decide +kernel
theorem dX10_howManyRings_7 : decode cX10_howManyRings 7 = .ok (.aload_n 0, 1) := by decide +kernel
theorem dX10_howManyRings_8 : decode cX10_howManyRings 8 = .ok (.getfield 63, 3) := by decide +kernel
theorem dX10_howManyRings_11 : decode cX10_howManyRings 11 = .ok (.getfield 153, 3) := by decide +kernel
theorem dX10_howManyRings_14 : decode cX10_howManyRings 14 = .ok (.if_icmp .ge 39, 3) := by decide +kernel
theorem dX10_howManyRings_17 : decode cX10_howManyRings 17 = .ok (.iload_n 2, 1) := by decide +kernel
theorem dX10_howManyRings_18 : decode cX10_howManyRings 18 = .ok (.iload_n 3, 1) := by decide +kernel
theorem dX10_howManyRings_19 : decode cX10_howManyRings 19 = .ok (.ishr, 1) := by decide +kernel
theorem dX10_howManyRings_20 : decode cX10_howManyRings 20 = .ok (.iconst 1, 1) := by decide +kernel
theorem dX10_howManyRings_21 : decode cX10_howManyRings 21 = .ok (.iand, 1) := by decide +kernel
theorem dX10_howManyRings_22 : decode cX10_howManyRings 22 = .ok (.ifCond .ne 25, 3) := by decide +kernel
theorem dX10_howManyRings_25 : decode cX10_howManyRings 25 = .ok (.aload_n 0, 1) := by decide +kernel
theorem dX10_howManyRings_26 : decode cX10_howManyRings 26 = .ok (.getfield 63, 3) := by decide +kernel
theorem dX10_howManyRings_29 : decode cX10_howManyRings 29 = .ok (.iload_n 3, 1) := by decide +kernel
theorem dX10_howManyRings_30 : decode cX10_howManyRings 30 = .ok (.invokevirtual 182, 3) := by decide +kernel
theorem dX10_howManyRings_33 : decode cX10_howManyRings 33 = .ok (.ifCond .ne 14, 3) := by decide +kernel
theorem dX10_howManyRings_36 : decode cX10_howManyRings 36 = .ok (.iinc 1 1, 3) := by decide +kernel
theorem dX10_howManyRings_39 : decode cX10_howManyRings 39 = .ok (.iload_n 2, 1) := by decide +kernel
theorem dX10_howManyRings_40 : decode cX10_howManyRings 40 = .ok (.aload_n 0, 1) := by decide +kernel
theorem dX10_howManyRings_41 : decode cX10_howManyRings 41 = .ok (.iload_n 3, 1) := by decide +kernel
theorem dX10_howManyRings_42 : decode cX10_howManyRings 42 = .ok (.invokevirtual 376, 3) := by decide +kernel
theorem dX10_howManyRings_45 : decode cX10_howManyRings 45 = .ok (.ior, 1) := by decide +kernel
theorem dX10_howManyRings_46 : decode cX10_howManyRings 46 = .ok (.istore_n 2, 1) := by decide +kernel
theorem dX10_howManyRings_47 : decode cX10_howManyRings 47 = .ok (.iinc 3 1, 3) := by decide +kernel
theorem dX10_howManyRings_50 : decode cX10_howManyRings 50 = .ok (.goto (-44), 3) := by decide +kernel
theorem dX10_howManyRings_53 : decode cX10_howManyRings 53 = .ok (.iload_n 1, 1) := by decide +kernel
theorem dX10_howManyRings_54 : decode cX10_howManyRings 54 = .ok (.ireturn, 1) := by decide +kernel
noncomputable def f_X10_howManyRings_J47 (a0 : Nat) (l1 : Int32) (l2 : Int32) (l3 : Int32) (μ : Mm) : Option ((Int32 × Int32 × Int32) ⊕ (Int32)) :=
  (some (l3 + (1 : Int32))).bind fun v47 => some (.inl (l1, l2, v47))
noncomputable def f_X10_howManyRings_L6 (a0 : Nat) (μ : Mm) (s6 : Int32 × Int32 × Int32) : Option ((Int32 × Int32 × Int32) ⊕ (Int32)) :=
  (gf_P 11 13 a0 μ).bind fun x8 => (gf_I 8 9 x8 μ).bind fun x11 => if x11 ≤ s6.2.2 then some (.inr s6.1) else if ((s6.2.1 >>> (s6.2.2 &&& 31)) &&& (1 : Int32)) = 0 then (gf_P 11 13 a0 μ).bind fun x26 => (f_X7_isAlone x26 s6.2.2 μ).bind fun x30 => if x30 = 0 then (some (s6.1 + (1 : Int32))).bind fun v36 => (f_X10_ringOf a0 s6.2.2 μ).bind fun x42 => (some (s6.2.1 ||| x42)).bind fun v46 => f_X10_howManyRings_J47 a0 v36 v46 s6.2.2 μ else f_X10_howManyRings_J47 a0 s6.1 s6.2.1 s6.2.2 μ else f_X10_howManyRings_J47 a0 s6.1 s6.2.1 s6.2.2 μ
noncomputable def f_X10_howManyRings (a0 : Nat) (μ : Mm) : Option Int32 :=
  if (mm_K μ a0).1 = 11 then (whl (f_X10_howManyRings_L6 a0 μ) ((0 : Int32), (0 : Int32), (0 : Int32))).bind (fun b6 => some b6) else none
abbrev Rn_X10_howManyRings (G : Gv) (Q : Option Value → Mm → Prop) (pc : Nat) (lv : List (Nat × Value)) (st : List Value) (μ : Mm) : Prop := Rn G RX10 cX10_howManyRings 4 (some .int) "howManyRings" (rmd 2 0 0) (Zm G 0 0 Q) 0 0 pc lv st μ
set_option maxRecDepth 100000 in
set_option maxHeartbeats 4000000 in
theorem m_X10_howManyRings {G : Gv} (a0 : Nat) (μ : Mm) {r : Int32} (hx : f_X10_howManyRings a0 μ = some r) : Mt G yX10_howManyRings cX10_howManyRings 4 (some .int) 2 0 0 [.ref a0] μ (fun v μ' => v = some (.int r) ∧ μ' = μ) := by
  refine Mt.of (by decide) (Nat.le_of_ble_eq_true rfl) ?_
  show Rn_X10_howManyRings G (fun v μ' => v = some (.int r) ∧ μ' = μ) 0 [(0, .ref a0)] [] μ
  obtain ⟨_, h⟩ := Sat_ifp (show Sat (f_X10_howManyRings a0 μ) (fun x => x = r) from ⟨_, hx, rfl⟩)
  refine r_iconst (v := 0) dX10_howManyRings_0 (by decide) ?_
  refine r_istore_n (lv' := [(1, .int (0 : Int32)), (0, .ref a0)]) dX10_howManyRings_1 rfl (by decide) rfl ?_
  refine r_iconst (v := 0) dX10_howManyRings_2 (by decide) ?_
  refine r_istore_n (lv' := [(2, .int (0 : Int32)), (1, .int (0 : Int32)), (0, .ref a0)]) dX10_howManyRings_3 rfl (by decide) rfl ?_
  refine r_iconst (v := 0) dX10_howManyRings_4 (by decide) ?_
  refine r_istore_n (lv' := [(3, .int (0 : Int32)), (2, .int (0 : Int32)), (1, .int (0 : Int32)), (0, .ref a0)]) dX10_howManyRings_5 rfl (by decide) rfl ?_
  refine r_sub (lv' := [(0, .ref a0), (1, .int (0 : Int32)), (2, .int (0 : Int32)), (3, .int (0 : Int32))]) [3, 2, 1, 0] rfl ?_
  refine whl_K (s0 := (((0 : Int32), (0 : Int32), (0 : Int32)) : Int32 × Int32 × Int32)) (RR := fun (s6 : Int32 × Int32 × Int32) => Rn_X10_howManyRings G (fun v μ' => v = some (.int r) ∧ μ' = μ) 6 [(0, .ref a0), (1, .int s6.1), (2, .int s6.2.1), (3, .int s6.2.2)] [] μ) ?_ (Sat_bindK h)
  intro s6 K6 hI6 hX6 h
  have J47 : ∀ (l1_47 : Int32) (l2_47 : Int32) (l3_47 : Int32), Sat (f_X10_howManyRings_J47 a0 l1_47 l2_47 l3_47 μ) K6 → Rn_X10_howManyRings G (fun v μ' => v = some (.int r) ∧ μ' = μ) 47 [(0, .ref a0), (1, .int l1_47), (2, .int l2_47), (3, .int l3_47)] [] μ := by
    intro l1_47 l2_47 l3_47 h
    obtain ⟨v47, e47, h⟩ := Sat_bind h
    refine r_iinc (j := 3) (v := v47) (lv' := [(3, .int v47), (0, .ref a0), (1, .int l1_47), (2, .int l2_47)]) dX10_howManyRings_47 rfl (iinc_v e47 (by decide)) (by decide) rfl ?_
    refine r_goto 6 dX10_howManyRings_50 (by decide) ?_
    exact r_sub [1, 2, 3, 0] rfl (hI6 _ (Sat_some h))
  refine r_iload_n dX10_howManyRings_6 3 rfl ?_
  refine r_aload_n dX10_howManyRings_7 0 rfl ?_
  obtain ⟨x8, e8, h⟩ := Sat_bind h
  refine r_getP fk_X10_63 rfl e8 dX10_howManyRings_8 ?_
  obtain ⟨x11, e11, h⟩ := Sat_bind h
  refine r_getI fk_X10_153 rfl e11 dX10_howManyRings_11 ?_
  refine r_icmp_ge 53 dX10_howManyRings_14 (by decide) (fun c14 => ?_) (fun c14 => ?_)
  · have h := Sat_pos c14 h
    have h := hX6 _ (Sat_some h)
    refine r_iload_n dX10_howManyRings_53 1 rfl ?_
    exact r_ireturn rfl (by rw [← Sat_eq h]; exact ⟨rfl, rfl⟩) dX10_howManyRings_54
  · have h := Sat_neg c14 h
    refine r_iload_n dX10_howManyRings_17 2 rfl ?_
    refine r_iload_n dX10_howManyRings_18 3 rfl ?_
    refine r_ishr dX10_howManyRings_19 ?_
    refine r_iconst (v := 1) dX10_howManyRings_20 (by decide) ?_
    refine r_iand dX10_howManyRings_21 ?_
    refine r_if_ne 47 dX10_howManyRings_22 (by decide) (fun c22 => ?_) (fun c22 => ?_)
    · have h := Sat_neg c22 h
      exact r_sub [0, 1, 2, 3] rfl (J47 s6.1 s6.2.1 s6.2.2 h)
    · have h := Sat_pos c22 h
      refine r_aload_n dX10_howManyRings_25 0 rfl ?_
      obtain ⟨x26, e26, h⟩ := Sat_bind h
      refine r_getP fk_X10_63 rfl e26 dX10_howManyRings_26 ?_
      refine r_iload_n dX10_howManyRings_29 3 rfl ?_
      obtain ⟨x30, e30, h⟩ := Sat_bind h
      refine r_cV (t := 8) [.int s6.2.2] [] (m_X7_isAlone x26 s6.2.2 μ e30) ck_X7_isAlone lk_X10_182 in_X7_isAlone se_X7_isAlone (kd_of e30) ⟨rfl, by decide, by decide⟩ rfl rfl (Nat.le_of_ble_eq_true rfl) ⟨by decide, by decide⟩ ⟨Nat.zero_le _, Nat.zero_le _⟩ dX10_howManyRings_30 ?_
      refine r_if_ne 47 dX10_howManyRings_33 (by decide) (fun c33 => ?_) (fun c33 => ?_)
      · have h := Sat_neg c33 h
        exact r_sub [0, 1, 2, 3] rfl (J47 s6.1 s6.2.1 s6.2.2 h)
      · have h := Sat_pos c33 h
        obtain ⟨v36, e36, h⟩ := Sat_bind h
        refine r_iinc (j := 1) (v := v36) (lv' := [(1, .int v36), (0, .ref a0), (2, .int s6.2.1), (3, .int s6.2.2)]) dX10_howManyRings_36 rfl (iinc_v e36 (by decide)) (by decide) rfl ?_
        refine r_iload_n dX10_howManyRings_39 2 rfl ?_
        refine r_aload_n dX10_howManyRings_40 1 rfl ?_
        refine r_iload_n dX10_howManyRings_41 3 rfl ?_
        obtain ⟨x42, e42, h⟩ := Sat_bind h
        refine r_cV (t := 11) [.int s6.2.2] [.int s6.2.1] (m_X10_ringOf a0 s6.2.2 μ e42) ck_X10_ringOf lk_X10_376 in_X10_ringOf se_X10_ringOf (kd_of e42) ⟨rfl, by decide, by decide⟩ rfl rfl (Nat.le_of_ble_eq_true rfl) ⟨by decide, by decide⟩ ⟨Nat.zero_le _, Nat.zero_le _⟩ dX10_howManyRings_42 ?_
        refine r_ior dX10_howManyRings_45 ?_
        obtain ⟨v46, e46, h⟩ := Sat_bind h
        refine r_topi (Option.some.inj e46) ?_
        refine r_istore_n (lv' := [(2, .int v46), (1, .int v36), (0, .ref a0), (3, .int s6.2.2)]) dX10_howManyRings_46 rfl (by decide) rfl ?_
        exact r_sub [2, 1, 0, 3] rfl (J47 v36 v46 s6.2.2 h)
theorem dX10_inLeastNumbers_0 : decode cX10_inLeastNumbers 0 = .ok (.aload_n 0, 1) := by decide +kernel
theorem dX10_inLeastNumbers_1 : decode cX10_inLeastNumbers 1 = .ok (.getfield 63, 3) := by decide +kernel
theorem dX10_inLeastNumbers_4 : decode cX10_inLeastNumbers 4 = .ok (.getfield 100, 3) := by decide +kernel
theorem dX10_inLeastNumbers_7 : decode cX10_inLeastNumbers 7 = .ok (.invokevirtual 195, 3) := by decide +kernel
theorem dX10_inLeastNumbers_10 : decode cX10_inLeastNumbers 10 = .ok (.istore_n 3, 1) := by decide +kernel
theorem dX10_inLeastNumbers_11 : decode cX10_inLeastNumbers 11 = .ok (.iload_n 1, 1) := by decide +kernel
theorem dX10_inLeastNumbers_12 : decode cX10_inLeastNumbers 12 = .ok (.iload_n 3, 1) := by decide +kernel
theorem dX10_inLeastNumbers_13 : decode cX10_inLeastNumbers 13 = .ok (.invokestatic 396, 3) := by decide +kernel
theorem dX10_inLeastNumbers_16 : decode cX10_inLeastNumbers 16 = .ok (.istore 4, 2) := by decide +kernel
theorem dX10_inLeastNumbers_18 : decode cX10_inLeastNumbers 18 = .ok (.iload 4, 2) := by decide +kernel
theorem dX10_inLeastNumbers_20 : decode cX10_inLeastNumbers 20 = .ok (.ifCond .gt 5, 3) := by decide +kernel
theorem dX10_inLeastNumbers_23 : decode cX10_inLeastNumbers 23 = .ok (.iconst (-1), 1) := by decide +kernel
theorem dX10_inLeastNumbers_24 : decode cX10_inLeastNumbers 24 = .ok (.ireturn, 1) := by decide +kernel
theorem dX10_inLeastNumbers_25 : decode cX10_inLeastNumbers 25 = .ok (.iload_n 2, 1) := by decide +kernel
theorem dX10_inLeastNumbers_26 : decode cX10_inLeastNumbers 26 = .ok (.ifCond .eq 7, 3) := by decide +kernel
theorem dX10_inLeastNumbers_29 : decode cX10_inLeastNumbers 29 = .ok (.iload_n 3, 1) := by decide +kernel
theorem dX10_inLeastNumbers_30 : decode cX10_inLeastNumbers 30 = .ok (.goto 4, 3) := by decide +kernel
theorem dX10_inLeastNumbers_33 : decode cX10_inLeastNumbers 33 = .ok (.iload_n 1, 1) := by decide +kernel
theorem dX10_inLeastNumbers_34 : decode cX10_inLeastNumbers 34 = .ok (.iload 4, 2) := by decide +kernel
theorem dX10_inLeastNumbers_36 : decode cX10_inLeastNumbers 36 = .ok (.idiv, 1) := by decide +kernel
theorem dX10_inLeastNumbers_37 : decode cX10_inLeastNumbers 37 = .ok (.ireturn, 1) := by decide +kernel
noncomputable def f_X10_inLeastNumbers_J34 (l4 : Int32) (k0 : Int32) (μ : Mm) : Option Int32 :=
  if l4 = 0 then none else some (k0 / l4)
noncomputable def f_X10_inLeastNumbers (a0 : Nat) (l1 : Int32) (l2 : Int32) (μ : Mm) : Option Int32 :=
  if (mm_K μ a0).1 = 11 then (gf_P 11 13 a0 μ).bind fun x1 => (gf_P 8 8 x1 μ).bind fun x4 => (f_X9_howMany x4 μ).bind fun x7 => (f_X10_greatestDivisor l1 x7 μ).bind fun x13 => if 0 < x13 then if l2 = 0 then f_X10_inLeastNumbers_J34 x13 l1 μ else f_X10_inLeastNumbers_J34 x13 x7 μ else some (-1 : Int32) else none
abbrev Rn_X10_inLeastNumbers (G : Gv) (Q : Option Value → Mm → Prop) (pc : Nat) (lv : List (Nat × Value)) (st : List Value) (μ : Mm) : Prop := Rn G RX10 cX10_inLeastNumbers 5 (some .int) "inLeastNumbers" (rmd 1 0 0) (Zm G 0 0 Q) 0 0 pc lv st μ
set_option maxRecDepth 100000 in
set_option maxHeartbeats 4000000 in
theorem m_X10_inLeastNumbers {G : Gv} (a0 : Nat) (l1 : Int32) (l2 : Int32) (μ : Mm) {r : Int32} (hx : f_X10_inLeastNumbers a0 l1 l2 μ = some r) : Mt G yX10_inLeastNumbers cX10_inLeastNumbers 5 (some .int) 1 0 0 [.ref a0, .int l1, .int l2] μ (fun v μ' => v = some (.int r) ∧ μ' = μ) := by
  refine Mt.of (by decide) (Nat.le_of_ble_eq_true rfl) ?_
  show Rn_X10_inLeastNumbers G (fun v μ' => v = some (.int r) ∧ μ' = μ) 0 [(0, .ref a0), (1, .int l1), (2, .int l2)] [] μ
  obtain ⟨_, h⟩ := Sat_ifp (show Sat (f_X10_inLeastNumbers a0 l1 l2 μ) (fun x => x = r) from ⟨_, hx, rfl⟩)
  have J34 : ∀ (l4_34 : Int32) (k0_34 : Int32), Sat (f_X10_inLeastNumbers_J34 l4_34 k0_34 μ) (fun x => x = r) → Rn_X10_inLeastNumbers G (fun v μ' => v = some (.int r) ∧ μ' = μ) 34 [(4, .int l4_34)] [.int k0_34] μ := by
    intro l4_34 k0_34 h
    refine r_iload dX10_inLeastNumbers_34 0 rfl ?_
    obtain ⟨z36, h⟩ := Sat_ifn h
    refine r_idiv dX10_inLeastNumbers_36 z36 ?_
    exact r_ireturn rfl (by rw [← Sat_eq h]; exact ⟨rfl, rfl⟩) dX10_inLeastNumbers_37
  refine r_aload_n dX10_inLeastNumbers_0 0 rfl ?_
  obtain ⟨x1, e1, h⟩ := Sat_bind h
  refine r_getP fk_X10_63 rfl e1 dX10_inLeastNumbers_1 ?_
  obtain ⟨x4, e4, h⟩ := Sat_bind h
  refine r_getP fk_X10_100 rfl e4 dX10_inLeastNumbers_4 ?_
  obtain ⟨x7, e7, h⟩ := Sat_bind h
  refine r_cV (t := 10) [] [] (m_X9_howMany x4 μ e7) ck_X9_howMany lk_X10_195 in_X9_howMany se_X9_howMany (kd_of e7) ⟨rfl, by decide, by decide⟩ rfl rfl (Nat.le_of_ble_eq_true rfl) ⟨by decide, by decide⟩ ⟨Nat.zero_le _, Nat.zero_le _⟩ dX10_inLeastNumbers_7 ?_
  refine r_istore_n (lv' := [(3, .int x7), (0, .ref a0), (1, .int l1), (2, .int l2)]) dX10_inLeastNumbers_10 rfl (by decide) rfl ?_
  refine r_iload_n dX10_inLeastNumbers_11 2 rfl ?_
  refine r_iload_n dX10_inLeastNumbers_12 0 rfl ?_
  obtain ⟨x13, e13, h⟩ := Sat_bind h
  refine r_cS [.int l1, .int x7] [] (m_X10_greatestDivisor l1 x7 μ e13) ck_X10_greatestDivisor lk_X10_396 st_X10_greatestDivisor rfl rfl (Nat.le_of_ble_eq_true rfl) ⟨by decide, by decide⟩ ⟨Nat.zero_le _, Nat.zero_le _⟩ dX10_inLeastNumbers_13 ?_
  refine r_istore (lv' := [(4, .int x13), (3, .int x7), (0, .ref a0), (1, .int l1), (2, .int l2)]) dX10_inLeastNumbers_16 (by decide) rfl ?_
  refine r_iload dX10_inLeastNumbers_18 0 rfl ?_
  refine r_if_gt 25 dX10_inLeastNumbers_20 (by decide) (fun c20 => ?_) (fun c20 => ?_)
  · have h := Sat_pos c20 h
    refine r_iload_n dX10_inLeastNumbers_25 4 rfl ?_
    refine r_if_eq 33 dX10_inLeastNumbers_26 (by decide) (fun c26 => ?_) (fun c26 => ?_)
    · have h := Sat_pos c26 h
      refine r_iload_n dX10_inLeastNumbers_33 3 rfl ?_
      exact r_sub [0] rfl (J34 x13 l1 h)
    · have h := Sat_neg c26 h
      refine r_iload_n dX10_inLeastNumbers_29 1 rfl ?_
      refine r_goto 34 dX10_inLeastNumbers_30 (by decide) ?_
      exact r_sub [0] rfl (J34 x13 x7 h)
  · have h := Sat_neg c20 h
    refine r_iconst (v := -1) dX10_inLeastNumbers_23 (by decide) ?_
    exact r_ireturn rfl (by rw [← Sat_eq h]; exact ⟨rfl, rfl⟩) dX10_inLeastNumbers_24
theorem dX1_setTown_0 : decode cX1_setTown 0 = .ok (.aload_n 0, 1) := by decide +kernel
theorem dX1_setTown_1 : decode cX1_setTown 1 = .ok (.aload_n 1, 1) := by decide +kernel
theorem dX1_setTown_2 : decode cX1_setTown 2 = .ok (.putfield 31, 3) := by decide +kernel
theorem dX1_setTown_5 : decode cX1_setTown 5 = .ok (.aload_n 0, 1) := by decide +kernel
theorem dX1_setTown_6 : decode cX1_setTown 6 = .ok (.iconst 0, 1) := by decide +kernel
theorem dX1_setTown_7 : decode cX1_setTown 7 = .ok (.putfield 43, 3) := by decide +kernel
theorem dX1_setTown_10 : decode cX1_setTown 10 = .ok (.aload_n 0, 1) := by decide +kernel
theorem dX1_setTown_11 : decode cX1_setTown 11 = .ok (.iconst 0, 1) := by decide +kernel
theorem dX1_setTown_12 : decode cX1_setTown 12 = .ok (.putfield 47, 3) := by decide +kernel
theorem dX1_setTown_15 : decode cX1_setTown 15 = .ok (.aload_n 0, 1) := by decide +kernel
theorem dX1_setTown_16 : decode cX1_setTown 16 = .ok (.iconst 0, 1) := by decide +kernel
theorem dX1_setTown_17 : decode cX1_setTown 17 = .ok (.putfield 50, 3) := by decide +kernel
theorem dX1_setTown_20 : decode cX1_setTown 20 = .ok (.return_, 1) := by decide +kernel
noncomputable def f_X1_setTown (a0 : Nat) (l1 : Nat) (μ : Mm) : Option Mm :=
  if (mm_K μ a0).1 = 2 then (pf_P 2 5 a0 l1 μ).bind fun μ2 => (pf_I 2 9 a0 (0 : Int32) μ2).bind fun μ7 => (pf_I 2 10 a0 (0 : Int32) μ7).bind fun μ12 => (pf_Z 2 11 a0 (0 : Int32) μ12).bind fun μ17 => some μ17 else none
abbrev Rn_X1_setTown (G : Gv) (Q : Option Value → Mm → Prop) (pc : Nat) (lv : List (Nat × Value)) (st : List Value) (μ : Mm) : Prop := Rn G RX1 cX1_setTown 2 none "setTown" (rmd 0 0 0) (Zm G 0 0 Q) 0 0 pc lv st μ
set_option maxRecDepth 100000 in
set_option maxHeartbeats 4000000 in
theorem m_X1_setTown {G : Gv} (a0 : Nat) (l1 : Nat) (μ : Mm) {r : Mm} (hx : f_X1_setTown a0 l1 μ = some r) : Mt G yX1_setTown cX1_setTown 2 none 0 0 0 [.ref a0, .ref l1] μ (fun v μ' => v = none ∧ μ' = r) := by
  refine Mt.of (by decide) (Nat.le_of_ble_eq_true rfl) ?_
  show Rn_X1_setTown G (fun v μ' => v = none ∧ μ' = r) 0 [(0, .ref a0), (1, .ref l1)] [] μ
  obtain ⟨_, h⟩ := Sat_ifp (show Sat (f_X1_setTown a0 l1 μ) (fun x => x = r) from ⟨_, hx, rfl⟩)
  refine r_aload_n dX1_setTown_0 0 rfl ?_
  refine r_aload_n dX1_setTown_1 1 rfl ?_
  obtain ⟨μ2, e2, h⟩ := Sat_bind h
  refine r_putP fk_X1_31 (Or.inl rfl) rfl e2 dX1_setTown_2 ?_
  refine r_aload_n dX1_setTown_5 0 rfl ?_
  refine r_iconst (v := 0) dX1_setTown_6 (by decide) ?_
  obtain ⟨μ7, e7, h⟩ := Sat_bind h
  refine r_putI fk_X1_43 rfl rfl e7 dX1_setTown_7 ?_
  refine r_aload_n dX1_setTown_10 0 rfl ?_
  refine r_iconst (v := 0) dX1_setTown_11 (by decide) ?_
  obtain ⟨μ12, e12, h⟩ := Sat_bind h
  refine r_putI fk_X1_47 rfl rfl e12 dX1_setTown_12 ?_
  refine r_aload_n dX1_setTown_15 0 rfl ?_
  refine r_iconst (v := 0) dX1_setTown_16 (by decide) ?_
  obtain ⟨μ17, e17, h⟩ := Sat_bind h
  refine r_putZ fk_X1_50 rfl rfl e17 dX1_setTown_17 ?_
  exact r_vreturn rfl (by rw [← Sat_eq h]; exact ⟨rfl, rfl⟩) dX1_setTown_20
theorem dX4_napsOf_0 : decode cX4_napsOf 0 = .ok (.iconst 0, 1) := by decide +kernel
theorem dX4_napsOf_1 : decode cX4_napsOf 1 = .ok (.istore_n 2, 1) := by decide +kernel
theorem dX4_napsOf_2 : decode cX4_napsOf 2 = .ok (.iconst 0, 1) := by decide +kernel
theorem dX4_napsOf_3 : decode cX4_napsOf 3 = .ok (.istore_n 3, 1) := by decide +kernel
theorem dX4_napsOf_4 : decode cX4_napsOf 4 = .ok (.iload_n 3, 1) := by decide +kernel
theorem dX4_napsOf_5 : decode cX4_napsOf 5 = .ok (.aload_n 0, 1) := by decide +kernel
theorem dX4_napsOf_6 : decode cX4_napsOf 6 = .ok (.getfield 33, 3) := by decide +kernel
theorem dX4_napsOf_9 : decode cX4_napsOf 9 = .ok (.getfield 37, 3) := by decide +kernel
theorem dX4_napsOf_12 : decode cX4_napsOf 12 = .ok (.getfield 43, 3) := by decide +kernel
theorem dX4_napsOf_15 : decode cX4_napsOf 15 = .ok (.if_icmp .ge 31, 3) := by decide +kernel
theorem dX4_napsOf_18 : decode cX4_napsOf 18 = .ok (.aload_n 0, 1) := by decide +kernel
theorem dX4_napsOf_19 : decode cX4_napsOf 19 = .ok (.getfield 33, 3) := by decide +kernel
theorem dX4_napsOf_22 : decode cX4_napsOf 22 = .ok (.getfield 37, 3) := by decide +kernel
theorem dX4_napsOf_25 : decode cX4_napsOf 25 = .ok (.iload_n 3, 1) := by decide +kernel
theorem dX4_napsOf_26 : decode cX4_napsOf 26 = .ok (.iconst 1, 1) := by decide +kernel
theorem dX4_napsOf_27 : decode cX4_napsOf 27 = .ok (.invokevirtual 49, 3) := by decide +kernel
theorem dX4_napsOf_30 : decode cX4_napsOf 30 = .ok (.iload_n 1, 1) := by decide +kernel
theorem dX4_napsOf_31 : decode cX4_napsOf 31 = .ok (.if_icmp .ne 9, 3) := by decide +kernel
theorem dX4_napsOf_34 : decode cX4_napsOf 34 = .ok (.iload_n 2, 1) := by decide +kernel
theorem dX4_napsOf_35 : decode cX4_napsOf 35 = .ok (.iconst 1, 1) := by decide +kernel
theorem dX4_napsOf_36 : decode cX4_napsOf 36 = .ok (.iload_n 3, 1) := by decide +kernel
theorem dX4_napsOf_37 : decode cX4_napsOf 37 = .ok (.ishl, 1) := by decide +kernel
theorem dX4_napsOf_38 : decode cX4_napsOf 38 = .ok (.ior, 1) := by decide +kernel
theorem dX4_napsOf_39 : decode cX4_napsOf 39 = .ok (.istore_n 2, 1) := by decide +kernel
theorem dX4_napsOf_40 : decode cX4_napsOf 40 = .ok (.iinc 3 1, 3) := by decide +kernel
theorem dX4_napsOf_43 : decode cX4_napsOf 43 = .ok (.goto (-39), 3) := by decide +kernel
theorem dX4_napsOf_46 : decode cX4_napsOf 46 = .ok (.iload_n 2, 1) := by decide +kernel
theorem dX4_napsOf_47 : decode cX4_napsOf 47 = .ok (.ireturn, 1) := by decide +kernel
noncomputable def f_X4_napsOf_J40 (a0 : Nat) (l1 : Int32) (l2 : Int32) (l3 : Int32) (μ : Mm) : Option ((Int32 × Int32) ⊕ (Int32)) :=
  (some (l3 + (1 : Int32))).bind fun v40 => some (.inl (l2, v40))
noncomputable def f_X4_napsOf_L4 (a0 : Nat) (l1 : Int32) (μ : Mm) (s4 : Int32 × Int32) : Option ((Int32 × Int32) ⊕ (Int32)) :=
  (gf_P 5 7 a0 μ).bind fun x6 => (gf_P 8 5 x6 μ).bind fun x9 => (gf_I 3 1 x9 μ).bind fun x12 => if x12 ≤ s4.2 then some (.inr s4.1) else (gf_P 5 7 a0 μ).bind fun x19 => (gf_P 8 5 x19 μ).bind fun x22 => (f_X2_at x22 s4.2 (1 : Int32) μ).bind fun x27 => if x27 = l1 then (some (s4.1 ||| ((1 : Int32) <<< (s4.2 &&& 31)))).bind fun v39 => f_X4_napsOf_J40 a0 l1 v39 s4.2 μ else f_X4_napsOf_J40 a0 l1 s4.1 s4.2 μ
noncomputable def f_X4_napsOf (a0 : Nat) (l1 : Int32) (μ : Mm) : Option Int32 :=
  if (mm_K μ a0).1 = 5 then (whl (f_X4_napsOf_L4 a0 l1 μ) ((0 : Int32), (0 : Int32))).bind (fun b4 => some b4) else none
abbrev Rn_X4_napsOf (G : Gv) (Q : Option Value → Mm → Prop) (pc : Nat) (lv : List (Nat × Value)) (st : List Value) (μ : Mm) : Prop := Rn G RX4 cX4_napsOf 4 (some .int) "napsOf" (rmd 1 0 0) (Zm G 0 0 Q) 0 0 pc lv st μ
set_option maxRecDepth 100000 in
set_option maxHeartbeats 4000000 in
theorem m_X4_napsOf {G : Gv} (a0 : Nat) (l1 : Int32) (μ : Mm) {r : Int32} (hx : f_X4_napsOf a0 l1 μ = some r) : Mt G yX4_napsOf cX4_napsOf 4 (some .int) 1 0 0 [.ref a0, .int l1] μ (fun v μ' => v = some (.int r) ∧ μ' = μ) := by
  refine Mt.of (by decide) (Nat.le_of_ble_eq_true rfl) ?_
  show Rn_X4_napsOf G (fun v μ' => v = some (.int r) ∧ μ' = μ) 0 [(0, .ref a0), (1, .int l1)] [] μ
  obtain ⟨_, h⟩ := Sat_ifp (show Sat (f_X4_napsOf a0 l1 μ) (fun x => x = r) from ⟨_, hx, rfl⟩)
  refine r_iconst (v := 0) dX4_napsOf_0 (by decide) ?_
  refine r_istore_n (lv' := [(2, .int (0 : Int32)), (0, .ref a0), (1, .int l1)]) dX4_napsOf_1 rfl (by decide) rfl ?_
  refine r_iconst (v := 0) dX4_napsOf_2 (by decide) ?_
  refine r_istore_n (lv' := [(3, .int (0 : Int32)), (2, .int (0 : Int32)), (0, .ref a0), (1, .int l1)]) dX4_napsOf_3 rfl (by decide) rfl ?_
  refine r_sub (lv' := [(0, .ref a0), (1, .int l1), (2, .int (0 : Int32)), (3, .int (0 : Int32))]) [2, 3, 1, 0] rfl ?_
  refine whl_K (s0 := (((0 : Int32), (0 : Int32)) : Int32 × Int32)) (RR := fun (s4 : Int32 × Int32) => Rn_X4_napsOf G (fun v μ' => v = some (.int r) ∧ μ' = μ) 4 [(0, .ref a0), (1, .int l1), (2, .int s4.1), (3, .int s4.2)] [] μ) ?_ (Sat_bindK h)
  intro s4 K4 hI4 hX4 h
  have J40 : ∀ (l2_40 : Int32) (l3_40 : Int32), Sat (f_X4_napsOf_J40 a0 l1 l2_40 l3_40 μ) K4 → Rn_X4_napsOf G (fun v μ' => v = some (.int r) ∧ μ' = μ) 40 [(0, .ref a0), (1, .int l1), (2, .int l2_40), (3, .int l3_40)] [] μ := by
    intro l2_40 l3_40 h
    obtain ⟨v40, e40, h⟩ := Sat_bind h
    refine r_iinc (j := 3) (v := v40) (lv' := [(3, .int v40), (0, .ref a0), (1, .int l1), (2, .int l2_40)]) dX4_napsOf_40 rfl (iinc_v e40 (by decide)) (by decide) rfl ?_
    refine r_goto 4 dX4_napsOf_43 (by decide) ?_
    exact r_sub [1, 2, 3, 0] rfl (hI4 _ (Sat_some h))
  refine r_iload_n dX4_napsOf_4 3 rfl ?_
  refine r_aload_n dX4_napsOf_5 0 rfl ?_
  obtain ⟨x6, e6, h⟩ := Sat_bind h
  refine r_getP fk_X4_33 rfl e6 dX4_napsOf_6 ?_
  obtain ⟨x9, e9, h⟩ := Sat_bind h
  refine r_getP fk_X4_37 rfl e9 dX4_napsOf_9 ?_
  obtain ⟨x12, e12, h⟩ := Sat_bind h
  refine r_getI fk_X4_43 rfl e12 dX4_napsOf_12 ?_
  refine r_icmp_ge 46 dX4_napsOf_15 (by decide) (fun c15 => ?_) (fun c15 => ?_)
  · have h := Sat_pos c15 h
    have h := hX4 _ (Sat_some h)
    refine r_iload_n dX4_napsOf_46 2 rfl ?_
    exact r_ireturn rfl (by rw [← Sat_eq h]; exact ⟨rfl, rfl⟩) dX4_napsOf_47
  · have h := Sat_neg c15 h
    refine r_aload_n dX4_napsOf_18 0 rfl ?_
    obtain ⟨x19, e19, h⟩ := Sat_bind h
    refine r_getP fk_X4_33 rfl e19 dX4_napsOf_19 ?_
    obtain ⟨x22, e22, h⟩ := Sat_bind h
    refine r_getP fk_X4_37 rfl e22 dX4_napsOf_22 ?_
    refine r_iload_n dX4_napsOf_25 3 rfl ?_
    refine r_iconst (v := 1) dX4_napsOf_26 (by decide) ?_
    obtain ⟨x27, e27, h⟩ := Sat_bind h
    refine r_cV (t := 3) [.int s4.2, .int (1 : Int32)] [] (m_X2_at x22 s4.2 (1 : Int32) μ e27) ck_X2_at lk_X4_49 in_X2_at se_X2_at (kd_of e27) ⟨rfl, by decide, by decide⟩ rfl rfl (Nat.le_of_ble_eq_true rfl) ⟨by decide, by decide⟩ ⟨Nat.zero_le _, Nat.zero_le _⟩ dX4_napsOf_27 ?_
    refine r_iload_n dX4_napsOf_30 1 rfl ?_
    refine r_icmp_ne 40 dX4_napsOf_31 (by decide) (fun c31 => ?_) (fun c31 => ?_)
    · have h := Sat_neg c31 h
      exact r_sub [0, 1, 2, 3] rfl (J40 s4.1 s4.2 h)
    · have h := Sat_pos c31 h
      refine r_iload_n dX4_napsOf_34 2 rfl ?_
      refine r_iconst (v := 1) dX4_napsOf_35 (by decide) ?_
      refine r_iload_n dX4_napsOf_36 3 rfl ?_
      refine r_ishl dX4_napsOf_37 ?_
      refine r_ior dX4_napsOf_38 ?_
      obtain ⟨v39, e39, h⟩ := Sat_bind h
      refine r_topi (Option.some.inj e39) ?_
      refine r_istore_n (lv' := [(2, .int v39), (0, .ref a0), (1, .int l1), (3, .int s4.2)]) dX4_napsOf_39 rfl (by decide) rfl ?_
      exact r_sub [1, 2, 0, 3] rfl (J40 v39 s4.2 h)
theorem dX4_talksOf_0 : decode cX4_talksOf 0 = .ok (.iconst 0, 1) := by decide +kernel
theorem dX4_talksOf_1 : decode cX4_talksOf 1 = .ok (.istore_n 2, 1) := by decide +kernel
theorem dX4_talksOf_2 : decode cX4_talksOf 2 = .ok (.iconst 0, 1) := by decide +kernel
theorem dX4_talksOf_3 : decode cX4_talksOf 3 = .ok (.istore_n 3, 1) := by decide +kernel
theorem dX4_talksOf_4 : decode cX4_talksOf 4 = .ok (.iload_n 3, 1) := by decide +kernel
theorem dX4_talksOf_5 : decode cX4_talksOf 5 = .ok (.aload_n 0, 1) := by decide +kernel
theorem dX4_talksOf_6 : decode cX4_talksOf 6 = .ok (.getfield 33, 3) := by decide +kernel
theorem dX4_talksOf_9 : decode cX4_talksOf 9 = .ok (.getfield 53, 3) := by decide +kernel
theorem dX4_talksOf_12 : decode cX4_talksOf 12 = .ok (.getfield 43, 3) := by decide +kernel
theorem dX4_talksOf_15 : decode cX4_talksOf 15 = .ok (.if_icmp .ge 41, 3) := by decide +kernel
theorem dX4_talksOf_18 : decode cX4_talksOf 18 = .ok (.aload_n 0, 1) := by decide +kernel
theorem dX4_talksOf_19 : decode cX4_talksOf 19 = .ok (.getfield 33, 3) := by decide +kernel
theorem dX4_talksOf_22 : decode cX4_talksOf 22 = .ok (.getfield 53, 3) := by decide +kernel
theorem dX4_talksOf_25 : decode cX4_talksOf 25 = .ok (.iload_n 3, 1) := by decide +kernel
theorem dX4_talksOf_26 : decode cX4_talksOf 26 = .ok (.iconst 2, 1) := by decide +kernel
theorem dX4_talksOf_27 : decode cX4_talksOf 27 = .ok (.invokevirtual 49, 3) := by decide +kernel
theorem dX4_talksOf_30 : decode cX4_talksOf 30 = .ok (.istore 4, 2) := by decide +kernel
theorem dX4_talksOf_32 : decode cX4_talksOf 32 = .ok (.iload 4, 2) := by decide +kernel
theorem dX4_talksOf_34 : decode cX4_talksOf 34 = .ok (.ifCond .le 16, 3) := by decide +kernel
theorem dX4_talksOf_37 : decode cX4_talksOf 37 = .ok (.iload_n 1, 1) := by decide +kernel
theorem dX4_talksOf_38 : decode cX4_talksOf 38 = .ok (.iload 4, 2) := by decide +kernel
theorem dX4_talksOf_40 : decode cX4_talksOf 40 = .ok (.irem, 1) := by decide +kernel
theorem dX4_talksOf_41 : decode cX4_talksOf 41 = .ok (.ifCond .ne 9, 3) := by decide +kernel
theorem dX4_talksOf_44 : decode cX4_talksOf 44 = .ok (.iload_n 2, 1) := by decide +kernel
theorem dX4_talksOf_45 : decode cX4_talksOf 45 = .ok (.iconst 1, 1) := by decide +kernel
theorem dX4_talksOf_46 : decode cX4_talksOf 46 = .ok (.iload_n 3, 1) := by decide +kernel
theorem dX4_talksOf_47 : decode cX4_talksOf 47 = .ok (.ishl, 1) := by decide +kernel
theorem dX4_talksOf_48 : decode cX4_talksOf 48 = .ok (.ior, 1) := by decide +kernel
theorem dX4_talksOf_49 : decode cX4_talksOf 49 = .ok (.istore_n 2, 1) := by decide +kernel
theorem dX4_talksOf_50 : decode cX4_talksOf 50 = .ok (.iinc 3 1, 3) := by decide +kernel
theorem dX4_talksOf_53 : decode cX4_talksOf 53 = .ok (.goto (-49), 3) := by decide +kernel
theorem dX4_talksOf_56 : decode cX4_talksOf 56 = .ok (.iload_n 2, 1) := by decide +kernel
theorem dX4_talksOf_57 : decode cX4_talksOf 57 = .ok (.ireturn, 1) := by decide +kernel
noncomputable def f_X4_talksOf_J50 (a0 : Nat) (l1 : Int32) (l2 : Int32) (l3 : Int32) (μ : Mm) : Option ((Int32 × Int32) ⊕ (Int32)) :=
  (some (l3 + (1 : Int32))).bind fun v50 => some (.inl (l2, v50))
noncomputable def f_X4_talksOf_L4 (a0 : Nat) (l1 : Int32) (μ : Mm) (s4 : Int32 × Int32) : Option ((Int32 × Int32) ⊕ (Int32)) :=
  (gf_P 5 7 a0 μ).bind fun x6 => (gf_P 8 4 x6 μ).bind fun x9 => (gf_I 3 1 x9 μ).bind fun x12 => if x12 ≤ s4.2 then some (.inr s4.1) else (gf_P 5 7 a0 μ).bind fun x19 => (gf_P 8 4 x19 μ).bind fun x22 => (f_X2_at x22 s4.2 (2 : Int32) μ).bind fun x27 => if x27 ≤ 0 then f_X4_talksOf_J50 a0 l1 s4.1 s4.2 μ else if x27 = 0 then none else if (l1 - l1 / x27 * x27) = 0 then (some (s4.1 ||| ((1 : Int32) <<< (s4.2 &&& 31)))).bind fun v49 => f_X4_talksOf_J50 a0 l1 v49 s4.2 μ else f_X4_talksOf_J50 a0 l1 s4.1 s4.2 μ
noncomputable def f_X4_talksOf (a0 : Nat) (l1 : Int32) (μ : Mm) : Option Int32 :=
  if (mm_K μ a0).1 = 5 then (whl (f_X4_talksOf_L4 a0 l1 μ) ((0 : Int32), (0 : Int32))).bind (fun b4 => some b4) else none
abbrev Rn_X4_talksOf (G : Gv) (Q : Option Value → Mm → Prop) (pc : Nat) (lv : List (Nat × Value)) (st : List Value) (μ : Mm) : Prop := Rn G RX4 cX4_talksOf 5 (some .int) "talksOf" (rmd 1 0 0) (Zm G 0 0 Q) 0 0 pc lv st μ
set_option maxRecDepth 100000 in
set_option maxHeartbeats 4000000 in
theorem m_X4_talksOf {G : Gv} (a0 : Nat) (l1 : Int32) (μ : Mm) {r : Int32} (hx : f_X4_talksOf a0 l1 μ = some r) : Mt G yX4_talksOf cX4_talksOf 5 (some .int) 1 0 0 [.ref a0, .int l1] μ (fun v μ' => v = some (.int r) ∧ μ' = μ) := by
  refine Mt.of (by decide) (Nat.le_of_ble_eq_true rfl) ?_
  show Rn_X4_talksOf G (fun v μ' => v = some (.int r) ∧ μ' = μ) 0 [(0, .ref a0), (1, .int l1)] [] μ
  obtain ⟨_, h⟩ := Sat_ifp (show Sat (f_X4_talksOf a0 l1 μ) (fun x => x = r) from ⟨_, hx, rfl⟩)
  refine r_iconst (v := 0) dX4_talksOf_0 (by decide) ?_
  refine r_istore_n (lv' := [(2, .int (0 : Int32)), (0, .ref a0), (1, .int l1)]) dX4_talksOf_1 rfl (by decide) rfl ?_
  refine r_iconst (v := 0) dX4_talksOf_2 (by decide) ?_
  refine r_istore_n (lv' := [(3, .int (0 : Int32)), (2, .int (0 : Int32)), (0, .ref a0), (1, .int l1)]) dX4_talksOf_3 rfl (by decide) rfl ?_
  refine r_sub (lv' := [(0, .ref a0), (1, .int l1), (2, .int (0 : Int32)), (3, .int (0 : Int32))]) [2, 3, 1, 0] rfl ?_
  refine whl_K (s0 := (((0 : Int32), (0 : Int32)) : Int32 × Int32)) (RR := fun (s4 : Int32 × Int32) => Rn_X4_talksOf G (fun v μ' => v = some (.int r) ∧ μ' = μ) 4 [(0, .ref a0), (1, .int l1), (2, .int s4.1), (3, .int s4.2)] [] μ) ?_ (Sat_bindK h)
  intro s4 K4 hI4 hX4 h
  have J50 : ∀ (l2_50 : Int32) (l3_50 : Int32), Sat (f_X4_talksOf_J50 a0 l1 l2_50 l3_50 μ) K4 → Rn_X4_talksOf G (fun v μ' => v = some (.int r) ∧ μ' = μ) 50 [(0, .ref a0), (1, .int l1), (2, .int l2_50), (3, .int l3_50)] [] μ := by
    intro l2_50 l3_50 h
    obtain ⟨v50, e50, h⟩ := Sat_bind h
    refine r_iinc (j := 3) (v := v50) (lv' := [(3, .int v50), (0, .ref a0), (1, .int l1), (2, .int l2_50)]) dX4_talksOf_50 rfl (iinc_v e50 (by decide)) (by decide) rfl ?_
    refine r_goto 4 dX4_talksOf_53 (by decide) ?_
    exact r_sub [1, 2, 3, 0] rfl (hI4 _ (Sat_some h))
  refine r_iload_n dX4_talksOf_4 3 rfl ?_
  refine r_aload_n dX4_talksOf_5 0 rfl ?_
  obtain ⟨x6, e6, h⟩ := Sat_bind h
  refine r_getP fk_X4_33 rfl e6 dX4_talksOf_6 ?_
  obtain ⟨x9, e9, h⟩ := Sat_bind h
  refine r_getP fk_X4_53 rfl e9 dX4_talksOf_9 ?_
  obtain ⟨x12, e12, h⟩ := Sat_bind h
  refine r_getI fk_X4_43 rfl e12 dX4_talksOf_12 ?_
  refine r_icmp_ge 56 dX4_talksOf_15 (by decide) (fun c15 => ?_) (fun c15 => ?_)
  · have h := Sat_pos c15 h
    have h := hX4 _ (Sat_some h)
    refine r_iload_n dX4_talksOf_56 2 rfl ?_
    exact r_ireturn rfl (by rw [← Sat_eq h]; exact ⟨rfl, rfl⟩) dX4_talksOf_57
  · have h := Sat_neg c15 h
    refine r_aload_n dX4_talksOf_18 0 rfl ?_
    obtain ⟨x19, e19, h⟩ := Sat_bind h
    refine r_getP fk_X4_33 rfl e19 dX4_talksOf_19 ?_
    obtain ⟨x22, e22, h⟩ := Sat_bind h
    refine r_getP fk_X4_53 rfl e22 dX4_talksOf_22 ?_
    refine r_iload_n dX4_talksOf_25 3 rfl ?_
    refine r_iconst (v := 2) dX4_talksOf_26 (by decide) ?_
    obtain ⟨x27, e27, h⟩ := Sat_bind h
    refine r_cV (t := 3) [.int s4.2, .int (2 : Int32)] [] (m_X2_at x22 s4.2 (2 : Int32) μ e27) ck_X2_at lk_X4_49 in_X2_at se_X2_at (kd_of e27) ⟨rfl, by decide, by decide⟩ rfl rfl (Nat.le_of_ble_eq_true rfl) ⟨by decide, by decide⟩ ⟨Nat.zero_le _, Nat.zero_le _⟩ dX4_talksOf_27 ?_
    refine r_istore (lv' := [(4, .int x27), (0, .ref a0), (1, .int l1), (2, .int s4.1), (3, .int s4.2)]) dX4_talksOf_30 (by decide) rfl ?_
    refine r_iload dX4_talksOf_32 0 rfl ?_
    refine r_if_le 50 dX4_talksOf_34 (by decide) (fun c34 => ?_) (fun c34 => ?_)
    · have h := Sat_pos c34 h
      exact r_sub [1, 2, 3, 4] rfl (J50 s4.1 s4.2 h)
    · have h := Sat_neg c34 h
      refine r_iload_n dX4_talksOf_37 2 rfl ?_
      refine r_iload dX4_talksOf_38 0 rfl ?_
      obtain ⟨z40, h⟩ := Sat_ifn h
      refine r_irem dX4_talksOf_40 z40 ?_
      refine r_if_ne 50 dX4_talksOf_41 (by decide) (fun c41 => ?_) (fun c41 => ?_)
      · have h := Sat_neg c41 h
        exact r_sub [1, 2, 3, 4] rfl (J50 s4.1 s4.2 h)
      · have h := Sat_pos c41 h
        refine r_iload_n dX4_talksOf_44 3 rfl ?_
        refine r_iconst (v := 1) dX4_talksOf_45 (by decide) ?_
        refine r_iload_n dX4_talksOf_46 4 rfl ?_
        refine r_ishl dX4_talksOf_47 ?_
        refine r_ior dX4_talksOf_48 ?_
        obtain ⟨v49, e49, h⟩ := Sat_bind h
        refine r_topi (Option.some.inj e49) ?_
        refine r_istore_n (lv' := [(2, .int v49), (4, .int x27), (0, .ref a0), (1, .int l1), (3, .int s4.2)]) dX4_talksOf_49 rfl (by decide) rfl ?_
        exact r_sub [2, 3, 0, 4] rfl (J50 v49 s4.2 h)
theorem dX7_dullOn_0 : decode cX7_dullOn 0 = .ok (.iconst 0, 1) := by decide +kernel
theorem dX7_dullOn_1 : decode cX7_dullOn 1 = .ok (.istore_n 2, 1) := by decide +kernel
theorem dX7_dullOn_2 : decode cX7_dullOn 2 = .ok (.iconst 0, 1) := by decide +kernel
theorem dX7_dullOn_3 : decode cX7_dullOn 3 = .ok (.istore_n 3, 1) := by decide +kernel
theorem dX7_dullOn_4 : decode cX7_dullOn 4 = .ok (.iload_n 3, 1) := by decide +kernel
theorem dX7_dullOn_5 : decode cX7_dullOn 5 = .ok (.aload_n 0, 1) := by decide +kernel
theorem dX7_dullOn_6 : decode cX7_dullOn 6 = .ok (.getfield 37, 3) := by decide +kernel
theorem dX7_dullOn_9 : decode cX7_dullOn 9 = .ok (.getfield 75, 3) := by decide +kernel
theorem dX7_dullOn_12 : decode cX7_dullOn 12 = .ok (.if_icmp .ge 49, 3) := by decide +kernel
theorem dX7_dullOn_15 : decode cX7_dullOn 15 = .ok (.aload_n 0, 1) := by decide +kernel
theorem dX7_dullOn_16 : decode cX7_dullOn 16 = .ok (.getfield 37, 3) := by decide +kernel
theorem dX7_dullOn_19 : decode cX7_dullOn 19 = .ok (.iload_n 3, 1) := by decide +kernel
theorem dX7_dullOn_20 : decode cX7_dullOn 20 = .ok (.iconst 1, 1) := by decide +kernel
theorem dX7_dullOn_21 : decode cX7_dullOn 21 = .ok (.invokevirtual 88, 3) := by decide +kernel
theorem dX7_dullOn_24 : decode cX7_dullOn 24 = .ok (.iload_n 1, 1) := by decide +kernel
theorem dX7_dullOn_25 : decode cX7_dullOn 25 = .ok (.if_icmp .gt 30, 3) := by decide +kernel
theorem dX7_dullOn_28 : decode cX7_dullOn 28 = .ok (.iload_n 1, 1) := by decide +kernel
theorem dX7_dullOn_29 : decode cX7_dullOn 29 = .ok (.aload_n 0, 1) := by decide +kernel
theorem dX7_dullOn_30 : decode cX7_dullOn 30 = .ok (.getfield 37, 3) := by decide +kernel
theorem dX7_dullOn_33 : decode cX7_dullOn 33 = .ok (.iload_n 3, 1) := by decide +kernel
theorem dX7_dullOn_34 : decode cX7_dullOn 34 = .ok (.iconst 2, 1) := by decide +kernel
theorem dX7_dullOn_35 : decode cX7_dullOn 35 = .ok (.invokevirtual 88, 3) := by decide +kernel
theorem dX7_dullOn_38 : decode cX7_dullOn 38 = .ok (.if_icmp .gt 17, 3) := by decide +kernel
theorem dX7_dullOn_41 : decode cX7_dullOn 41 = .ok (.iload_n 2, 1) := by decide +kernel
theorem dX7_dullOn_42 : decode cX7_dullOn 42 = .ok (.iconst 1, 1) := by decide +kernel
theorem dX7_dullOn_43 : decode cX7_dullOn 43 = .ok (.aload_n 0, 1) := by decide +kernel
theorem dX7_dullOn_44 : decode cX7_dullOn 44 = .ok (.getfield 37, 3) := by decide +kernel
theorem dX7_dullOn_47 : decode cX7_dullOn 47 = .ok (.iload_n 3, 1) := by decide +kernel
theorem dX7_dullOn_48 : decode cX7_dullOn 48 = .ok (.iconst 0, 1) := by decide +kernel
theorem dX7_dullOn_49 : decode cX7_dullOn 49 = .ok (.invokevirtual 88, 3) := by decide +kernel
theorem dX7_dullOn_52 : decode cX7_dullOn 52 = .ok (.ishl, 1) := by decide +kernel
theorem dX7_dullOn_53 : decode cX7_dullOn 53 = .ok (.ior, 1) := by decide +kernel
theorem dX7_dullOn_54 : decode cX7_dullOn 54 = .ok (.istore_n 2, 1) := by decide +kernel
theorem dX7_dullOn_55 : decode cX7_dullOn 55 = .ok (.iinc 3 1, 3) := by decide +kernel
theorem dX7_dullOn_58 : decode cX7_dullOn 58 = .ok (.goto (-54), 3) := by decide +kernel
theorem dX7_dullOn_61 : decode cX7_dullOn 61 = .ok (.iload_n 2, 1) := by decide +kernel
theorem dX7_dullOn_62 : decode cX7_dullOn 62 = .ok (.ireturn, 1) := by decide +kernel
noncomputable def f_X7_dullOn_J55 (a0 : Nat) (l1 : Int32) (l2 : Int32) (l3 : Int32) (μ : Mm) : Option ((Int32 × Int32) ⊕ (Int32)) :=
  (some (l3 + (1 : Int32))).bind fun v55 => some (.inl (l2, v55))
noncomputable def f_X7_dullOn_L4 (a0 : Nat) (l1 : Int32) (μ : Mm) (s4 : Int32 × Int32) : Option ((Int32 × Int32) ⊕ (Int32)) :=
  (gf_P 8 6 a0 μ).bind fun x6 => (gf_I 3 1 x6 μ).bind fun x9 => if x9 ≤ s4.2 then some (.inr s4.1) else (gf_P 8 6 a0 μ).bind fun x16 => (f_X2_at x16 s4.2 (1 : Int32) μ).bind fun x21 => if l1 < x21 then f_X7_dullOn_J55 a0 l1 s4.1 s4.2 μ else (gf_P 8 6 a0 μ).bind fun x30 => (f_X2_at x30 s4.2 (2 : Int32) μ).bind fun x35 => if x35 < l1 then f_X7_dullOn_J55 a0 l1 s4.1 s4.2 μ else (gf_P 8 6 a0 μ).bind fun x44 => (f_X2_at x44 s4.2 (0 : Int32) μ).bind fun x49 => (some (s4.1 ||| ((1 : Int32) <<< (x49 &&& 31)))).bind fun v54 => f_X7_dullOn_J55 a0 l1 v54 s4.2 μ
noncomputable def f_X7_dullOn (a0 : Nat) (l1 : Int32) (μ : Mm) : Option Int32 :=
  if (mm_K μ a0).1 = 8 then (whl (f_X7_dullOn_L4 a0 l1 μ) ((0 : Int32), (0 : Int32))).bind (fun b4 => some b4) else none
abbrev Rn_X7_dullOn (G : Gv) (Q : Option Value → Mm → Prop) (pc : Nat) (lv : List (Nat × Value)) (st : List Value) (μ : Mm) : Prop := Rn G RX7 cX7_dullOn 4 (some .int) "dullOn" (rmd 1 0 0) (Zm G 0 0 Q) 0 0 pc lv st μ
set_option maxRecDepth 100000 in
set_option maxHeartbeats 4000000 in
theorem m_X7_dullOn {G : Gv} (a0 : Nat) (l1 : Int32) (μ : Mm) {r : Int32} (hx : f_X7_dullOn a0 l1 μ = some r) : Mt G yX7_dullOn cX7_dullOn 4 (some .int) 1 0 0 [.ref a0, .int l1] μ (fun v μ' => v = some (.int r) ∧ μ' = μ) := by
  refine Mt.of (by decide) (Nat.le_of_ble_eq_true rfl) ?_
  show Rn_X7_dullOn G (fun v μ' => v = some (.int r) ∧ μ' = μ) 0 [(0, .ref a0), (1, .int l1)] [] μ
  obtain ⟨_, h⟩ := Sat_ifp (show Sat (f_X7_dullOn a0 l1 μ) (fun x => x = r) from ⟨_, hx, rfl⟩)
  refine r_iconst (v := 0) dX7_dullOn_0 (by decide) ?_
  refine r_istore_n (lv' := [(2, .int (0 : Int32)), (0, .ref a0), (1, .int l1)]) dX7_dullOn_1 rfl (by decide) rfl ?_
  refine r_iconst (v := 0) dX7_dullOn_2 (by decide) ?_
  refine r_istore_n (lv' := [(3, .int (0 : Int32)), (2, .int (0 : Int32)), (0, .ref a0), (1, .int l1)]) dX7_dullOn_3 rfl (by decide) rfl ?_
  refine r_sub (lv' := [(0, .ref a0), (1, .int l1), (2, .int (0 : Int32)), (3, .int (0 : Int32))]) [2, 3, 1, 0] rfl ?_
  refine whl_K (s0 := (((0 : Int32), (0 : Int32)) : Int32 × Int32)) (RR := fun (s4 : Int32 × Int32) => Rn_X7_dullOn G (fun v μ' => v = some (.int r) ∧ μ' = μ) 4 [(0, .ref a0), (1, .int l1), (2, .int s4.1), (3, .int s4.2)] [] μ) ?_ (Sat_bindK h)
  intro s4 K4 hI4 hX4 h
  have J55 : ∀ (l2_55 : Int32) (l3_55 : Int32), Sat (f_X7_dullOn_J55 a0 l1 l2_55 l3_55 μ) K4 → Rn_X7_dullOn G (fun v μ' => v = some (.int r) ∧ μ' = μ) 55 [(0, .ref a0), (1, .int l1), (2, .int l2_55), (3, .int l3_55)] [] μ := by
    intro l2_55 l3_55 h
    obtain ⟨v55, e55, h⟩ := Sat_bind h
    refine r_iinc (j := 3) (v := v55) (lv' := [(3, .int v55), (0, .ref a0), (1, .int l1), (2, .int l2_55)]) dX7_dullOn_55 rfl (iinc_v e55 (by decide)) (by decide) rfl ?_
    refine r_goto 4 dX7_dullOn_58 (by decide) ?_
    exact r_sub [1, 2, 3, 0] rfl (hI4 _ (Sat_some h))
  refine r_iload_n dX7_dullOn_4 3 rfl ?_
  refine r_aload_n dX7_dullOn_5 0 rfl ?_
  obtain ⟨x6, e6, h⟩ := Sat_bind h
  refine r_getP fk_X7_37 rfl e6 dX7_dullOn_6 ?_
  obtain ⟨x9, e9, h⟩ := Sat_bind h
  refine r_getI fk_X7_75 rfl e9 dX7_dullOn_9 ?_
  refine r_icmp_ge 61 dX7_dullOn_12 (by decide) (fun c12 => ?_) (fun c12 => ?_)
  · have h := Sat_pos c12 h
    have h := hX4 _ (Sat_some h)
    refine r_iload_n dX7_dullOn_61 2 rfl ?_
    exact r_ireturn rfl (by rw [← Sat_eq h]; exact ⟨rfl, rfl⟩) dX7_dullOn_62
  · have h := Sat_neg c12 h
    refine r_aload_n dX7_dullOn_15 0 rfl ?_
    obtain ⟨x16, e16, h⟩ := Sat_bind h
    refine r_getP fk_X7_37 rfl e16 dX7_dullOn_16 ?_
    refine r_iload_n dX7_dullOn_19 3 rfl ?_
    refine r_iconst (v := 1) dX7_dullOn_20 (by decide) ?_
    obtain ⟨x21, e21, h⟩ := Sat_bind h
    refine r_cV (t := 3) [.int s4.2, .int (1 : Int32)] [] (m_X2_at x16 s4.2 (1 : Int32) μ e21) ck_X2_at lk_X7_88 in_X2_at se_X2_at (kd_of e21) ⟨rfl, by decide, by decide⟩ rfl rfl (Nat.le_of_ble_eq_true rfl) ⟨by decide, by decide⟩ ⟨Nat.zero_le _, Nat.zero_le _⟩ dX7_dullOn_21 ?_
    refine r_iload_n dX7_dullOn_24 1 rfl ?_
    refine r_icmp_gt 55 dX7_dullOn_25 (by decide) (fun c25 => ?_) (fun c25 => ?_)
    · have h := Sat_pos c25 h
      exact r_sub [0, 1, 2, 3] rfl (J55 s4.1 s4.2 h)
    · have h := Sat_neg c25 h
      refine r_iload_n dX7_dullOn_28 1 rfl ?_
      refine r_aload_n dX7_dullOn_29 0 rfl ?_
      obtain ⟨x30, e30, h⟩ := Sat_bind h
      refine r_getP fk_X7_37 rfl e30 dX7_dullOn_30 ?_
      refine r_iload_n dX7_dullOn_33 3 rfl ?_
      refine r_iconst (v := 2) dX7_dullOn_34 (by decide) ?_
      obtain ⟨x35, e35, h⟩ := Sat_bind h
      refine r_cV (t := 3) [.int s4.2, .int (2 : Int32)] [.int l1] (m_X2_at x30 s4.2 (2 : Int32) μ e35) ck_X2_at lk_X7_88 in_X2_at se_X2_at (kd_of e35) ⟨rfl, by decide, by decide⟩ rfl rfl (Nat.le_of_ble_eq_true rfl) ⟨by decide, by decide⟩ ⟨Nat.zero_le _, Nat.zero_le _⟩ dX7_dullOn_35 ?_
      refine r_icmp_gt 55 dX7_dullOn_38 (by decide) (fun c38 => ?_) (fun c38 => ?_)
      · have h := Sat_pos c38 h
        exact r_sub [0, 1, 2, 3] rfl (J55 s4.1 s4.2 h)
      · have h := Sat_neg c38 h
        refine r_iload_n dX7_dullOn_41 2 rfl ?_
        refine r_iconst (v := 1) dX7_dullOn_42 (by decide) ?_
        refine r_aload_n dX7_dullOn_43 0 rfl ?_
        obtain ⟨x44, e44, h⟩ := Sat_bind h
        refine r_getP fk_X7_37 rfl e44 dX7_dullOn_44 ?_
        refine r_iload_n dX7_dullOn_47 3 rfl ?_
        refine r_iconst (v := 0) dX7_dullOn_48 (by decide) ?_
        obtain ⟨x49, e49, h⟩ := Sat_bind h
        refine r_cV (t := 3) [.int s4.2, .int (0 : Int32)] [.int (1 : Int32), .int s4.1] (m_X2_at x44 s4.2 (0 : Int32) μ e49) ck_X2_at lk_X7_88 in_X2_at se_X2_at (kd_of e49) ⟨rfl, by decide, by decide⟩ rfl rfl (Nat.le_of_ble_eq_true rfl) ⟨by decide, by decide⟩ ⟨Nat.zero_le _, Nat.zero_le _⟩ dX7_dullOn_49 ?_
        refine r_ishl dX7_dullOn_52 ?_
        refine r_ior dX7_dullOn_53 ?_
        obtain ⟨v54, e54, h⟩ := Sat_bind h
        refine r_topi (Option.some.inj e54) ?_
        refine r_istore_n (lv' := [(2, .int v54), (0, .ref a0), (1, .int l1), (3, .int s4.2)]) dX7_dullOn_54 rfl (by decide) rfl ?_
        exact r_sub [1, 2, 0, 3] rfl (J55 v54 s4.2 h)
theorem dX4_setTown_0 : decode cX4_setTown 0 = .ok (.aload_n 0, 1) := by decide +kernel
theorem dX4_setTown_1 : decode cX4_setTown 1 = .ok (.aload_n 1, 1) := by decide +kernel
theorem dX4_setTown_2 : decode cX4_setTown 2 = .ok (.putfield 33, 3) := by decide +kernel
theorem dX4_setTown_5 : decode cX4_setTown 5 = .ok (.iconst 0, 1) := by decide +kernel
theorem dX4_setTown_6 : decode cX4_setTown 6 = .ok (.istore_n 2, 1) := by decide +kernel
theorem dX4_setTown_7 : decode cX4_setTown 7 = .ok (.iload_n 2, 1) := by decide +kernel
theorem dX4_setTown_8 : decode cX4_setTown 8 = .ok (.aload_n 0, 1) := by decide +kernel
theorem dX4_setTown_9 : decode cX4_setTown 9 = .ok (.getfield 33, 3) := by decide +kernel
theorem dX4_setTown_12 : decode cX4_setTown 12 = .ok (.getfield 37, 3) := by decide +kernel
theorem dX4_setTown_15 : decode cX4_setTown 15 = .ok (.getfield 43, 3) := by decide +kernel
theorem dX4_setTown_18 : decode cX4_setTown 18 = .ok (.if_icmp .ge 36, 3) := by decide +kernel
theorem dX4_setTown_21 : decode cX4_setTown 21 = .ok (.iload_n 2, 1) := by decide +kernel
theorem dX4_setTown_22 : decode cX4_setTown 22 = .ok (.aload_n 0, 1) := by decide +kernel
theorem dX4_setTown_23 : decode cX4_setTown 23 = .ok (.getfield 27, 3) := by decide +kernel
theorem dX4_setTown_26 : decode cX4_setTown 26 = .ok (.arraylength, 1) := by decide +kernel
theorem dX4_setTown_27 : decode cX4_setTown 27 = .ok (.if_icmp .ge 27, 3) := by decide +kernel
theorem dX4_setTown_30 : decode cX4_setTown 30 = .ok (.aload_n 0, 1) := by decide +kernel
theorem dX4_setTown_31 : decode cX4_setTown 31 = .ok (.getfield 27, 3) := by decide +kernel
theorem dX4_setTown_34 : decode cX4_setTown 34 = .ok (.iload_n 2, 1) := by decide +kernel
theorem dX4_setTown_35 : decode cX4_setTown 35 = .ok (.aload_n 0, 1) := by decide +kernel
theorem dX4_setTown_36 : decode cX4_setTown 36 = .ok (.getfield 33, 3) := by decide +kernel
theorem dX4_setTown_39 : decode cX4_setTown 39 = .ok (.getfield 37, 3) := by decide +kernel
theorem dX4_setTown_42 : decode cX4_setTown 42 = .ok (.iload_n 2, 1) := by decide +kernel
theorem dX4_setTown_43 : decode cX4_setTown 43 = .ok (.iconst 0, 1) := by decide +kernel
theorem dX4_setTown_44 : decode cX4_setTown 44 = .ok (.invokevirtual 49, 3) := by decide +kernel
theorem dX4_setTown_47 : decode cX4_setTown 47 = .ok (.iastore, 1) := by decide +kernel
theorem dX4_setTown_48 : decode cX4_setTown 48 = .ok (.iinc 2 1, 3) := by decide +kernel
theorem dX4_setTown_51 : decode cX4_setTown 51 = .ok (.goto (-44), 3) := by decide +kernel
theorem dX4_setTown_54 : decode cX4_setTown 54 = .ok (.iconst 0, 1) := by decide +kernel
theorem dX4_setTown_55 : decode cX4_setTown 55 = .ok (.istore_n 2, 1) := by decide +kernel
theorem dX4_setTown_56 : decode cX4_setTown 56 = .ok (.iload_n 2, 1) := by decide +kernel
theorem dX4_setTown_57 : decode cX4_setTown 57 = .ok (.aload_n 0, 1) := by decide +kernel
theorem dX4_setTown_58 : decode cX4_setTown 58 = .ok (.getfield 33, 3) := by decide +kernel
theorem dX4_setTown_61 : decode cX4_setTown 61 = .ok (.getfield 53, 3) := by decide +kernel
theorem dX4_setTown_64 : decode cX4_setTown 64 = .ok (.getfield 43, 3) := by decide +kernel
theorem dX4_setTown_67 : decode cX4_setTown 67 = .ok (.if_icmp .ge 53, 3) := by decide +kernel
theorem dX4_setTown_70 : decode cX4_setTown 70 = .ok (.iload_n 2, 1) := by decide +kernel
theorem dX4_setTown_71 : decode cX4_setTown 71 = .ok (.aload_n 0, 1) := by decide +kernel
theorem dX4_setTown_72 : decode cX4_setTown 72 = .ok (.getfield 30, 3) := by decide +kernel
theorem dX4_setTown_75 : decode cX4_setTown 75 = .ok (.arraylength, 1) := by decide +kernel
theorem dX4_setTown_76 : decode cX4_setTown 76 = .ok (.if_icmp .ge 44, 3) := by decide +kernel
theorem dX4_setTown_79 : decode cX4_setTown 79 = .ok (.aload_n 0, 1) := by decide +kernel
theorem dX4_setTown_80 : decode cX4_setTown 80 = .ok (.getfield 30, 3) := by decide +kernel
theorem dX4_setTown_83 : decode cX4_setTown 83 = .ok (.iload_n 2, 1) := by decide +kernel
theorem dX4_setTown_84 : decode cX4_setTown 84 = .ok (.iconst 1, 1) := by decide +kernel
theorem dX4_setTown_85 : decode cX4_setTown 85 = .ok (.aload_n 0, 1) := by decide +kernel
theorem dX4_setTown_86 : decode cX4_setTown 86 = .ok (.getfield 33, 3) := by decide +kernel
theorem dX4_setTown_89 : decode cX4_setTown 89 = .ok (.getfield 53, 3) := by decide +kernel
theorem dX4_setTown_92 : decode cX4_setTown 92 = .ok (.iload_n 2, 1) := by decide +kernel
theorem dX4_setTown_93 : decode cX4_setTown 93 = .ok (.iconst 0, 1) := by decide +kernel
theorem dX4_setTown_94 : decode cX4_setTown 94 = .ok (.invokevirtual 49, 3) := by decide +kernel
theorem dX4_setTown_97 : decode cX4_setTown 97 = .ok (.ishl, 1) := by decide +kernel
theorem dX4_setTown_98 : decode cX4_setTown 98 = .ok (.iconst 1, 1) := by decide +kernel
theorem dX4_setTown_99 : decode cX4_setTown 99 = .ok (.aload_n 0, 1) := by decide +kernel
theorem dX4_setTown_100 : decode cX4_setTown 100 = .ok (.getfield 33, 3) := by decide +kernel
theorem dX4_setTown_103 : decode cX4_setTown 103 = .ok (.getfield 53, 3) := by decide +kernel
theorem dX4_setTown_106 : decode cX4_setTown 106 = .ok (.iload_n 2, 1) := by decide +kernel
theorem dX4_setTown_107 : decode cX4_setTown 107 = .ok (.iconst 1, 1) := by decide +kernel
theorem dX4_setTown_108 : decode cX4_setTown 108 = .ok (.invokevirtual 49, 3) := by decide +kernel
theorem dX4_setTown_111 : decode cX4_setTown 111 = .ok (.ishl, 1) := by decide +kernel
theorem dX4_setTown_112 : decode cX4_setTown 112 = .ok (.ior, 1) := by decide +kernel
theorem dX4_setTown_113 : decode cX4_setTown 113 = .ok (.iastore, 1) := by decide +kernel
theorem dX4_setTown_114 : decode cX4_setTown 114 = .ok (.iinc 2 1, 3) := by decide +kernel
theorem dX4_setTown_117 : decode cX4_setTown 117 = .ok (.goto (-61), 3) := by decide +kernel
theorem dX4_setTown_120 : decode cX4_setTown 120 = .ok (.iconst 0, 1) := by decide +kernel
theorem dX4_setTown_121 : decode cX4_setTown 121 = .ok (.istore_n 2, 1) := by decide +kernel
theorem dX4_setTown_122 : decode cX4_setTown 122 = .ok (.iload_n 2, 1) := by decide +kernel
theorem dX4_setTown_123 : decode cX4_setTown 123 = .ok (.bipush 28, 2) := by decide +kernel
theorem dX4_setTown_125 : decode cX4_setTown 125 = .ok (.if_icmp .ge 45, 3) := by decide +kernel
theorem dX4_setTown_128 : decode cX4_setTown 128 = .ok (.aload_n 0, 1) := by decide +kernel
theorem dX4_setTown_129 : decode cX4_setTown 129 = .ok (.getfield 9, 3) := by decide +kernel
theorem dX4_setTown_132 : decode cX4_setTown 132 = .ok (.iload_n 2, 1) := by decide +kernel
theorem dX4_setTown_133 : decode cX4_setTown 133 = .ok (.aload_n 0, 1) := by decide +kernel
theorem dX4_setTown_134 : decode cX4_setTown 134 = .ok (.getfield 33, 3) := by decide +kernel
theorem dX4_setTown_137 : decode cX4_setTown 137 = .ok (.iload_n 2, 1) := by decide +kernel
theorem dX4_setTown_138 : decode cX4_setTown 138 = .ok (.invokevirtual 56, 3) := by decide +kernel
theorem dX4_setTown_141 : decode cX4_setTown 141 = .ok (.iastore, 1) := by decide +kernel
theorem dX4_setTown_142 : decode cX4_setTown 142 = .ok (.aload_n 0, 1) := by decide +kernel
theorem dX4_setTown_143 : decode cX4_setTown 143 = .ok (.getfield 15, 3) := by decide +kernel
theorem dX4_setTown_146 : decode cX4_setTown 146 = .ok (.iload_n 2, 1) := by decide +kernel
theorem dX4_setTown_147 : decode cX4_setTown 147 = .ok (.aload_n 0, 1) := by decide +kernel
theorem dX4_setTown_148 : decode cX4_setTown 148 = .ok (.iload_n 2, 1) := by decide +kernel
theorem dX4_setTown_149 : decode cX4_setTown 149 = .ok (.invokevirtual 59, 3) := by decide +kernel
theorem dX4_setTown_152 : decode cX4_setTown 152 = .ok (.iastore, 1) := by decide +kernel
theorem dX4_setTown_153 : decode cX4_setTown 153 = .ok (.aload_n 0, 1) := by decide +kernel
theorem dX4_setTown_154 : decode cX4_setTown 154 = .ok (.getfield 18, 3) := by decide +kernel
theorem dX4_setTown_157 : decode cX4_setTown 157 = .ok (.iload_n 2, 1) := by decide +kernel
theorem dX4_setTown_158 : decode cX4_setTown 158 = .ok (.aload_n 0, 1) := by decide +kernel
theorem dX4_setTown_159 : decode cX4_setTown 159 = .ok (.iload_n 2, 1) := by decide +kernel
theorem dX4_setTown_160 : decode cX4_setTown 160 = .ok (.invokevirtual 62, 3) := by decide +kernel
theorem dX4_setTown_163 : decode cX4_setTown 163 = .ok (.iastore, 1) := by decide +kernel
theorem dX4_setTown_164 : decode cX4_setTown 164 = .ok (.iinc 2 1, 3) := by decide +kernel
theorem dX4_setTown_167 : decode cX4_setTown 167 = .ok (.goto (-45), 3) := by decide +kernel
theorem dX4_setTown_170 : decode cX4_setTown 170 = .ok (.return_, 1) := by decide +kernel
noncomputable def f_X4_setTown_L122 (a0 : Nat) (s122 : Int32 × Mm) : Option ((Int32 × Mm) ⊕ (Mm)) :=
  if (28 : Int32) ≤ s122.1 then some (.inr s122.2) else (gf_P 5 0 a0 s122.2).bind fun x129 => (gf_P 5 7 a0 s122.2).bind fun x134 => (f_X7_dullOn x134 s122.1 s122.2).bind fun x138 => (pa_I x129 s122.1 x138 s122.2).bind fun μ141 => (gf_P 5 1 a0 μ141).bind fun x143 => (f_X4_napsOf a0 s122.1 μ141).bind fun x149 => (pa_I x143 s122.1 x149 μ141).bind fun μ152 => (gf_P 5 2 a0 μ152).bind fun x154 => (f_X4_talksOf a0 s122.1 μ152).bind fun x160 => (pa_I x154 s122.1 x160 μ152).bind fun μ163 => (some (s122.1 + (1 : Int32))).bind fun v164 => some (.inl (v164, μ163))
noncomputable def f_X4_setTown_J120 (a0 : Nat) (μ : Mm) : Option Mm :=
  (whl (f_X4_setTown_L122 a0) ((0 : Int32), μ)).bind (fun b122 => some b122)
noncomputable def f_X4_setTown_L56 (a0 : Nat) (s56 : Int32 × Mm) : Option ((Int32 × Mm) ⊕ (Mm)) :=
  (gf_P 5 7 a0 s56.2).bind fun x58 => (gf_P 8 4 x58 s56.2).bind fun x61 => (gf_I 3 1 x61 s56.2).bind fun x64 => if x64 ≤ s56.1 then some (.inr s56.2) else (gf_P 5 6 a0 s56.2).bind fun x72 => (ga_len x72 s56.2).bind fun x75 => if x75 ≤ s56.1 then some (.inr s56.2) else (gf_P 5 6 a0 s56.2).bind fun x80 => (gf_P 5 7 a0 s56.2).bind fun x86 => (gf_P 8 4 x86 s56.2).bind fun x89 => (f_X2_at x89 s56.1 (0 : Int32) s56.2).bind fun x94 => (gf_P 5 7 a0 s56.2).bind fun x100 => (gf_P 8 4 x100 s56.2).bind fun x103 => (f_X2_at x103 s56.1 (1 : Int32) s56.2).bind fun x108 => (pa_I x80 s56.1 (((1 : Int32) <<< (x94 &&& 31)) ||| ((1 : Int32) <<< (x108 &&& 31))) s56.2).bind fun μ113 => (some (s56.1 + (1 : Int32))).bind fun v114 => some (.inl (v114, μ113))
noncomputable def f_X4_setTown_J54 (a0 : Nat) (μ : Mm) : Option Mm :=
  (whl (f_X4_setTown_L56 a0) ((0 : Int32), μ)).bind (fun b56 => f_X4_setTown_J120 a0 b56)
noncomputable def f_X4_setTown_L7 (a0 : Nat) (s7 : Int32 × Mm) : Option ((Int32 × Mm) ⊕ (Mm)) :=
  (gf_P 5 7 a0 s7.2).bind fun x9 => (gf_P 8 5 x9 s7.2).bind fun x12 => (gf_I 3 1 x12 s7.2).bind fun x15 => if x15 ≤ s7.1 then some (.inr s7.2) else (gf_P 5 5 a0 s7.2).bind fun x23 => (ga_len x23 s7.2).bind fun x26 => if x26 ≤ s7.1 then some (.inr s7.2) else (gf_P 5 5 a0 s7.2).bind fun x31 => (gf_P 5 7 a0 s7.2).bind fun x36 => (gf_P 8 5 x36 s7.2).bind fun x39 => (f_X2_at x39 s7.1 (0 : Int32) s7.2).bind fun x44 => (pa_I x31 s7.1 x44 s7.2).bind fun μ47 => (some (s7.1 + (1 : Int32))).bind fun v48 => some (.inl (v48, μ47))
noncomputable def f_X4_setTown (a0 : Nat) (l1 : Nat) (μ : Mm) : Option Mm :=
  if (mm_K μ a0).1 = 5 then (pf_P 5 7 a0 l1 μ).bind fun μ2 => (whl (f_X4_setTown_L7 a0) ((0 : Int32), μ2)).bind (fun b7 => f_X4_setTown_J54 a0 b7) else none
abbrev Rn_X4_setTown (G : Gv) (Q : Option Value → Mm → Prop) (pc : Nat) (lv : List (Nat × Value)) (st : List Value) (μ : Mm) : Prop := Rn G RX4 cX4_setTown 3 none "setTown" (rmd 2 0 0) (Zm G 0 0 Q) 0 0 pc lv st μ
set_option maxRecDepth 100000 in
set_option maxHeartbeats 4000000 in
theorem m_X4_setTown {G : Gv} (a0 : Nat) (l1 : Nat) (μ : Mm) {r : Mm} (hx : f_X4_setTown a0 l1 μ = some r) : Mt G yX4_setTown cX4_setTown 3 none 2 0 0 [.ref a0, .ref l1] μ (fun v μ' => v = none ∧ μ' = r) := by
  refine Mt.of (by decide) (Nat.le_of_ble_eq_true rfl) ?_
  show Rn_X4_setTown G (fun v μ' => v = none ∧ μ' = r) 0 [(0, .ref a0), (1, .ref l1)] [] μ
  obtain ⟨_, h⟩ := Sat_ifp (show Sat (f_X4_setTown a0 l1 μ) (fun x => x = r) from ⟨_, hx, rfl⟩)
  have J120 : ∀ (a0_120 : Nat) (μ_120 : Mm), Sat (f_X4_setTown_J120 a0_120 μ_120) (fun x => x = r) → Rn_X4_setTown G (fun v μ' => v = none ∧ μ' = r) 120 [(0, .ref a0_120)] [] μ_120 := by
    intro a0_120 μ_120 h
    refine r_iconst (v := 0) dX4_setTown_120 (by decide) ?_
    refine r_istore_n (lv' := [(2, .int (0 : Int32)), (0, .ref a0_120)]) dX4_setTown_121 rfl (by decide) rfl ?_
    refine r_sub (lv' := [(0, .ref a0_120), (2, .int (0 : Int32))]) [1, 0] rfl ?_
    refine whl_K (s0 := (((0 : Int32), μ_120) : Int32 × Mm)) (RR := fun (s122 : Int32 × Mm) => Rn_X4_setTown G (fun v μ' => v = none ∧ μ' = r) 122 [(0, .ref a0_120), (2, .int s122.1)] [] s122.2) ?_ (Sat_bindK h)
    intro s122 K122 hI122 hX122 h
    refine r_iload_n dX4_setTown_122 1 rfl ?_
    refine r_bipush (v := 28) dX4_setTown_123 (by decide) ?_
    refine r_icmp_ge 170 dX4_setTown_125 (by decide) (fun c125 => ?_) (fun c125 => ?_)
    · have h := Sat_pos c125 h
      have h := hX122 _ (Sat_some h)
      exact r_vreturn rfl (by rw [← Sat_eq h]; exact ⟨rfl, rfl⟩) dX4_setTown_170
    · have h := Sat_neg c125 h
      refine r_aload_n dX4_setTown_128 0 rfl ?_
      obtain ⟨x129, e129, h⟩ := Sat_bind h
      refine r_getP fk_X4_9 rfl e129 dX4_setTown_129 ?_
      refine r_iload_n dX4_setTown_132 1 rfl ?_
      refine r_aload_n dX4_setTown_133 0 rfl ?_
      obtain ⟨x134, e134, h⟩ := Sat_bind h
      refine r_getP fk_X4_33 rfl e134 dX4_setTown_134 ?_
      refine r_iload_n dX4_setTown_137 1 rfl ?_
      obtain ⟨x138, e138, h⟩ := Sat_bind h
      refine r_cV (t := 8) [.int s122.1] [.int s122.1, .ref x129] (m_X7_dullOn x134 s122.1 s122.2 e138) ck_X7_dullOn lk_X4_56 in_X7_dullOn se_X7_dullOn (kd_of e138) ⟨rfl, by decide, by decide⟩ rfl rfl (Nat.le_of_ble_eq_true rfl) ⟨by decide, by decide⟩ ⟨Nat.zero_le _, Nat.zero_le _⟩ dX4_setTown_138 ?_
      obtain ⟨μ141, e141, h⟩ := Sat_bind h
      refine r_iastore e141 dX4_setTown_141 ?_
      refine r_aload_n dX4_setTown_142 0 rfl ?_
      obtain ⟨x143, e143, h⟩ := Sat_bind h
      refine r_getP fk_X4_15 rfl e143 dX4_setTown_143 ?_
      refine r_iload_n dX4_setTown_146 1 rfl ?_
      refine r_aload_n dX4_setTown_147 0 rfl ?_
      refine r_iload_n dX4_setTown_148 1 rfl ?_
      obtain ⟨x149, e149, h⟩ := Sat_bind h
      refine r_cV (t := 5) [.int s122.1] [.int s122.1, .ref x143] (m_X4_napsOf a0_120 s122.1 μ141 e149) ck_X4_napsOf lk_X4_59 in_X4_napsOf se_X4_napsOf (kd_of e149) ⟨rfl, by decide, by decide⟩ rfl rfl (Nat.le_of_ble_eq_true rfl) ⟨by decide, by decide⟩ ⟨Nat.zero_le _, Nat.zero_le _⟩ dX4_setTown_149 ?_
      obtain ⟨μ152, e152, h⟩ := Sat_bind h
      refine r_iastore e152 dX4_setTown_152 ?_
      refine r_aload_n dX4_setTown_153 0 rfl ?_
      obtain ⟨x154, e154, h⟩ := Sat_bind h
      refine r_getP fk_X4_18 rfl e154 dX4_setTown_154 ?_
      refine r_iload_n dX4_setTown_157 1 rfl ?_
      refine r_aload_n dX4_setTown_158 0 rfl ?_
      refine r_iload_n dX4_setTown_159 1 rfl ?_
      obtain ⟨x160, e160, h⟩ := Sat_bind h
      refine r_cV (t := 5) [.int s122.1] [.int s122.1, .ref x154] (m_X4_talksOf a0_120 s122.1 μ152 e160) ck_X4_talksOf lk_X4_62 in_X4_talksOf se_X4_talksOf (kd_of e160) ⟨rfl, by decide, by decide⟩ rfl rfl (Nat.le_of_ble_eq_true rfl) ⟨by decide, by decide⟩ ⟨Nat.zero_le _, Nat.zero_le _⟩ dX4_setTown_160 ?_
      obtain ⟨μ163, e163, h⟩ := Sat_bind h
      refine r_iastore e163 dX4_setTown_163 ?_
      obtain ⟨v164, e164, h⟩ := Sat_bind h
      refine r_iinc (j := 1) (v := v164) (lv' := [(2, .int v164), (0, .ref a0_120)]) dX4_setTown_164 rfl (iinc_v e164 (by decide)) (by decide) rfl ?_
      refine r_goto 122 dX4_setTown_167 (by decide) ?_
      exact r_sub [1, 0] rfl (hI122 _ (Sat_some h))
  have J54 : ∀ (a0_54 : Nat) (μ_54 : Mm), Sat (f_X4_setTown_J54 a0_54 μ_54) (fun x => x = r) → Rn_X4_setTown G (fun v μ' => v = none ∧ μ' = r) 54 [(0, .ref a0_54)] [] μ_54 := by
    intro a0_54 μ_54 h
    refine r_iconst (v := 0) dX4_setTown_54 (by decide) ?_
    refine r_istore_n (lv' := [(2, .int (0 : Int32)), (0, .ref a0_54)]) dX4_setTown_55 rfl (by decide) rfl ?_
    refine r_sub (lv' := [(0, .ref a0_54), (2, .int (0 : Int32))]) [1, 0] rfl ?_
    refine whl_K (s0 := (((0 : Int32), μ_54) : Int32 × Mm)) (RR := fun (s56 : Int32 × Mm) => Rn_X4_setTown G (fun v μ' => v = none ∧ μ' = r) 56 [(0, .ref a0_54), (2, .int s56.1)] [] s56.2) ?_ (Sat_bindK h)
    intro s56 K56 hI56 hX56 h
    refine r_iload_n dX4_setTown_56 1 rfl ?_
    refine r_aload_n dX4_setTown_57 0 rfl ?_
    obtain ⟨x58, e58, h⟩ := Sat_bind h
    refine r_getP fk_X4_33 rfl e58 dX4_setTown_58 ?_
    obtain ⟨x61, e61, h⟩ := Sat_bind h
    refine r_getP fk_X4_53 rfl e61 dX4_setTown_61 ?_
    obtain ⟨x64, e64, h⟩ := Sat_bind h
    refine r_getI fk_X4_43 rfl e64 dX4_setTown_64 ?_
    refine r_icmp_ge 120 dX4_setTown_67 (by decide) (fun c67 => ?_) (fun c67 => ?_)
    · have h := Sat_pos c67 h
      have h := hX56 _ (Sat_some h)
      exact r_sub [0] rfl (J120 a0_54 s56.2 h)
    · have h := Sat_neg c67 h
      refine r_iload_n dX4_setTown_70 1 rfl ?_
      refine r_aload_n dX4_setTown_71 0 rfl ?_
      obtain ⟨x72, e72, h⟩ := Sat_bind h
      refine r_getP fk_X4_30 rfl e72 dX4_setTown_72 ?_
      obtain ⟨x75, e75, h⟩ := Sat_bind h
      refine r_len e75 dX4_setTown_75 ?_
      refine r_icmp_ge 120 dX4_setTown_76 (by decide) (fun c76 => ?_) (fun c76 => ?_)
      · have h := Sat_pos c76 h
        have h := hX56 _ (Sat_some h)
        exact r_sub [0] rfl (J120 a0_54 s56.2 h)
      · have h := Sat_neg c76 h
        refine r_aload_n dX4_setTown_79 0 rfl ?_
        obtain ⟨x80, e80, h⟩ := Sat_bind h
        refine r_getP fk_X4_30 rfl e80 dX4_setTown_80 ?_
        refine r_iload_n dX4_setTown_83 1 rfl ?_
        refine r_iconst (v := 1) dX4_setTown_84 (by decide) ?_
        refine r_aload_n dX4_setTown_85 0 rfl ?_
        obtain ⟨x86, e86, h⟩ := Sat_bind h
        refine r_getP fk_X4_33 rfl e86 dX4_setTown_86 ?_
        obtain ⟨x89, e89, h⟩ := Sat_bind h
        refine r_getP fk_X4_53 rfl e89 dX4_setTown_89 ?_
        refine r_iload_n dX4_setTown_92 1 rfl ?_
        refine r_iconst (v := 0) dX4_setTown_93 (by decide) ?_
        obtain ⟨x94, e94, h⟩ := Sat_bind h
        refine r_cV (t := 3) [.int s56.1, .int (0 : Int32)] [.int (1 : Int32), .int s56.1, .ref x80] (m_X2_at x89 s56.1 (0 : Int32) s56.2 e94) ck_X2_at lk_X4_49 in_X2_at se_X2_at (kd_of e94) ⟨rfl, by decide, by decide⟩ rfl rfl (Nat.le_of_ble_eq_true rfl) ⟨by decide, by decide⟩ ⟨Nat.zero_le _, Nat.zero_le _⟩ dX4_setTown_94 ?_
        refine r_ishl dX4_setTown_97 ?_
        refine r_iconst (v := 1) dX4_setTown_98 (by decide) ?_
        refine r_aload_n dX4_setTown_99 0 rfl ?_
        obtain ⟨x100, e100, h⟩ := Sat_bind h
        refine r_getP fk_X4_33 rfl e100 dX4_setTown_100 ?_
        obtain ⟨x103, e103, h⟩ := Sat_bind h
        refine r_getP fk_X4_53 rfl e103 dX4_setTown_103 ?_
        refine r_iload_n dX4_setTown_106 1 rfl ?_
        refine r_iconst (v := 1) dX4_setTown_107 (by decide) ?_
        obtain ⟨x108, e108, h⟩ := Sat_bind h
        refine r_cV (t := 3) [.int s56.1, .int (1 : Int32)] [.int (1 : Int32), .int ((1 : Int32) <<< (x94 &&& 31)), .int s56.1, .ref x80] (m_X2_at x103 s56.1 (1 : Int32) s56.2 e108) ck_X2_at lk_X4_49 in_X2_at se_X2_at (kd_of e108) ⟨rfl, by decide, by decide⟩ rfl rfl (Nat.le_of_ble_eq_true rfl) ⟨by decide, by decide⟩ ⟨Nat.zero_le _, Nat.zero_le _⟩ dX4_setTown_108 ?_
        refine r_ishl dX4_setTown_111 ?_
        refine r_ior dX4_setTown_112 ?_
        obtain ⟨μ113, e113, h⟩ := Sat_bind h
        refine r_iastore e113 dX4_setTown_113 ?_
        obtain ⟨v114, e114, h⟩ := Sat_bind h
        refine r_iinc (j := 1) (v := v114) (lv' := [(2, .int v114), (0, .ref a0_54)]) dX4_setTown_114 rfl (iinc_v e114 (by decide)) (by decide) rfl ?_
        refine r_goto 56 dX4_setTown_117 (by decide) ?_
        exact r_sub [1, 0] rfl (hI56 _ (Sat_some h))
  refine r_aload_n dX4_setTown_0 0 rfl ?_
  refine r_aload_n dX4_setTown_1 1 rfl ?_
  obtain ⟨μ2, e2, h⟩ := Sat_bind h
  refine r_putP fk_X4_33 (Or.inl rfl) rfl e2 dX4_setTown_2 ?_
  refine r_iconst (v := 0) dX4_setTown_5 (by decide) ?_
  refine r_istore_n (lv' := [(2, .int (0 : Int32)), (0, .ref a0), (1, .ref l1)]) dX4_setTown_6 rfl (by decide) rfl ?_
  refine r_sub (lv' := [(0, .ref a0), (2, .int (0 : Int32))]) [1, 0] rfl ?_
  refine whl_K (s0 := (((0 : Int32), μ2) : Int32 × Mm)) (RR := fun (s7 : Int32 × Mm) => Rn_X4_setTown G (fun v μ' => v = none ∧ μ' = r) 7 [(0, .ref a0), (2, .int s7.1)] [] s7.2) ?_ (Sat_bindK h)
  intro s7 K7 hI7 hX7 h
  refine r_iload_n dX4_setTown_7 1 rfl ?_
  refine r_aload_n dX4_setTown_8 0 rfl ?_
  obtain ⟨x9, e9, h⟩ := Sat_bind h
  refine r_getP fk_X4_33 rfl e9 dX4_setTown_9 ?_
  obtain ⟨x12, e12, h⟩ := Sat_bind h
  refine r_getP fk_X4_37 rfl e12 dX4_setTown_12 ?_
  obtain ⟨x15, e15, h⟩ := Sat_bind h
  refine r_getI fk_X4_43 rfl e15 dX4_setTown_15 ?_
  refine r_icmp_ge 54 dX4_setTown_18 (by decide) (fun c18 => ?_) (fun c18 => ?_)
  · have h := Sat_pos c18 h
    have h := hX7 _ (Sat_some h)
    exact r_sub [0] rfl (J54 a0 s7.2 h)
  · have h := Sat_neg c18 h
    refine r_iload_n dX4_setTown_21 1 rfl ?_
    refine r_aload_n dX4_setTown_22 0 rfl ?_
    obtain ⟨x23, e23, h⟩ := Sat_bind h
    refine r_getP fk_X4_27 rfl e23 dX4_setTown_23 ?_
    obtain ⟨x26, e26, h⟩ := Sat_bind h
    refine r_len e26 dX4_setTown_26 ?_
    refine r_icmp_ge 54 dX4_setTown_27 (by decide) (fun c27 => ?_) (fun c27 => ?_)
    · have h := Sat_pos c27 h
      have h := hX7 _ (Sat_some h)
      exact r_sub [0] rfl (J54 a0 s7.2 h)
    · have h := Sat_neg c27 h
      refine r_aload_n dX4_setTown_30 0 rfl ?_
      obtain ⟨x31, e31, h⟩ := Sat_bind h
      refine r_getP fk_X4_27 rfl e31 dX4_setTown_31 ?_
      refine r_iload_n dX4_setTown_34 1 rfl ?_
      refine r_aload_n dX4_setTown_35 0 rfl ?_
      obtain ⟨x36, e36, h⟩ := Sat_bind h
      refine r_getP fk_X4_33 rfl e36 dX4_setTown_36 ?_
      obtain ⟨x39, e39, h⟩ := Sat_bind h
      refine r_getP fk_X4_37 rfl e39 dX4_setTown_39 ?_
      refine r_iload_n dX4_setTown_42 1 rfl ?_
      refine r_iconst (v := 0) dX4_setTown_43 (by decide) ?_
      obtain ⟨x44, e44, h⟩ := Sat_bind h
      refine r_cV (t := 3) [.int s7.1, .int (0 : Int32)] [.int s7.1, .ref x31] (m_X2_at x39 s7.1 (0 : Int32) s7.2 e44) ck_X2_at lk_X4_49 in_X2_at se_X2_at (kd_of e44) ⟨rfl, by decide, by decide⟩ rfl rfl (Nat.le_of_ble_eq_true rfl) ⟨by decide, by decide⟩ ⟨Nat.zero_le _, Nat.zero_le _⟩ dX4_setTown_44 ?_
      obtain ⟨μ47, e47, h⟩ := Sat_bind h
      refine r_iastore e47 dX4_setTown_47 ?_
      obtain ⟨v48, e48, h⟩ := Sat_bind h
      refine r_iinc (j := 1) (v := v48) (lv' := [(2, .int v48), (0, .ref a0)]) dX4_setTown_48 rfl (iinc_v e48 (by decide)) (by decide) rfl ?_
      refine r_goto 7 dX4_setTown_51 (by decide) ?_
      exact r_sub [1, 0] rfl (hI7 _ (Sat_some h))
theorem dX10_settle_0 : decode cX10_settle 0 = .ok (.aload_n 0, 1) := by decide +kernel
theorem dX10_settle_1 : decode cX10_settle 1 = .ok (.aload_n 0, 1) := by decide +kernel
theorem dX10_settle_2 : decode cX10_settle 2 = .ok (.getfield 63, 3) := by decide +kernel
theorem dX10_settle_5 : decode cX10_settle 5 = .ok (.getfield 100, 3) := by decide +kernel
theorem dX10_settle_8 : decode cX10_settle 8 = .ok (.iconst 0, 1) := by decide +kernel
theorem dX10_settle_9 : decode cX10_settle 9 = .ok (.invokevirtual 112, 3) := by decide +kernel
theorem dX10_settle_12 : decode cX10_settle 12 = .ok (.putfield 116, 3) := by decide +kernel
theorem dX10_settle_15 : decode cX10_settle 15 = .ok (.aload_n 0, 1) := by decide +kernel
theorem dX10_settle_16 : decode cX10_settle 16 = .ok (.getfield 84, 3) := by decide +kernel
theorem dX10_settle_19 : decode cX10_settle 19 = .ok (.aload_n 0, 1) := by decide +kernel
theorem dX10_settle_20 : decode cX10_settle 20 = .ok (.getfield 63, 3) := by decide +kernel
theorem dX10_settle_23 : decode cX10_settle 23 = .ok (.invokevirtual 120, 3) := by decide +kernel
theorem dX10_settle_26 : decode cX10_settle 26 = .ok (.aload_n 0, 1) := by decide +kernel
theorem dX10_settle_27 : decode cX10_settle 27 = .ok (.getfield 28, 3) := by decide +kernel
theorem dX10_settle_30 : decode cX10_settle 30 = .ok (.invokevirtual 123, 3) := by decide +kernel
theorem dX10_settle_33 : decode cX10_settle 33 = .ok (.aload_n 0, 1) := by decide +kernel
theorem dX10_settle_34 : decode cX10_settle 34 = .ok (.getfield 93, 3) := by decide +kernel
theorem dX10_settle_37 : decode cX10_settle 37 = .ok (.aload_n 0, 1) := by decide +kernel
theorem dX10_settle_38 : decode cX10_settle 38 = .ok (.getfield 63, 3) := by decide +kernel
theorem dX10_settle_41 : decode cX10_settle 41 = .ok (.invokevirtual 124, 3) := by decide +kernel
theorem dX10_settle_44 : decode cX10_settle 44 = .ok (.aload_n 0, 1) := by decide +kernel
theorem dX10_settle_45 : decode cX10_settle 45 = .ok (.getfield 35, 3) := by decide +kernel
theorem dX10_settle_48 : decode cX10_settle 48 = .ok (.iconst 0, 1) := by decide +kernel
theorem dX10_settle_49 : decode cX10_settle 49 = .ok (.putfield 125, 3) := by decide +kernel
theorem dX10_settle_52 : decode cX10_settle 52 = .ok (.iconst 0, 1) := by decide +kernel
theorem dX10_settle_53 : decode cX10_settle 53 = .ok (.istore_n 1, 1) := by decide +kernel
theorem dX10_settle_54 : decode cX10_settle 54 = .ok (.iload_n 1, 1) := by decide +kernel
theorem dX10_settle_55 : decode cX10_settle 55 = .ok (.aload_n 0, 1) := by decide +kernel
theorem dX10_settle_56 : decode cX10_settle 56 = .ok (.getfield 39, 3) := by decide +kernel
theorem dX10_settle_59 : decode cX10_settle 59 = .ok (.arraylength, 1) := by decide +kernel
theorem dX10_settle_60 : decode cX10_settle 60 = .ok (.if_icmp .ge 19, 3) := by decide +kernel
theorem dX10_settle_63 : decode cX10_settle 63 = .ok (.aload_n 0, 1) := by decide +kernel
theorem dX10_settle_64 : decode cX10_settle 64 = .ok (.getfield 39, 3) := by decide +kernel
theorem dX10_settle_67 : decode cX10_settle 67 = .ok (.iload_n 1, 1) := by decide +kernel
theorem dX10_settle_68 : decode cX10_settle 68 = .ok (.aaload, 1) := by decide +kernel
theorem dX10_settle_69 : decode cX10_settle 69 = .ok (.iconst 0, 1) := by decide +kernel
theorem dX10_settle_70 : decode cX10_settle 70 = .ok (.putfield 125, 3) := by decide +kernel
theorem dX10_settle_73 : decode cX10_settle 73 = .ok (.iinc 1 1, 3) := by decide +kernel
theorem dX10_settle_76 : decode cX10_settle 76 = .ok (.goto (-22), 3) := by decide +kernel
theorem dX10_settle_79 : decode cX10_settle 79 = .ok (.return_, 1) := by decide +kernel
noncomputable def f_X10_settle_L54 (a0 : Nat) (s54 : Int32 × Mm) : Option ((Int32 × Mm) ⊕ (Mm)) :=
  (gf_P 11 7 a0 s54.2).bind fun x56 => (ga_len x56 s54.2).bind fun x59 => if x59 ≤ s54.1 then some (.inr s54.2) else (gf_P 11 7 a0 s54.2).bind fun x64 => (ga_P 24 x64 s54.1 s54.2).bind fun x68 => (pf_Z 4 1 x68 (0 : Int32) s54.2).bind fun μ70 => (some (s54.1 + (1 : Int32))).bind fun v73 => some (.inl (v73, μ70))
noncomputable def f_X10_settle (a0 : Nat) (μ : Mm) : Option Mm :=
  if (mm_K μ a0).1 = 11 then (gf_P 11 13 a0 μ).bind fun x2 => (gf_P 8 8 x2 μ).bind fun x5 => (f_X9_rowOf x5 (0 : Int32) μ).bind fun x9 => (pf_I 11 15 a0 x9 μ).bind fun μ12 => (gf_P 11 3 a0 μ12).bind fun x16 => (gf_P 11 13 a0 μ12).bind fun x20 => (f_X4_setTown x16 x20 μ12).bind fun x23 => (gf_P 11 4 a0 x23).bind fun x27 => (f_X0_clear x27 x23).bind fun x30 => (gf_P 11 5 a0 x30).bind fun x34 => (gf_P 11 13 a0 x30).bind fun x38 => (f_X1_setTown x34 x38 x30).bind fun x41 => (gf_P 11 6 a0 x41).bind fun x45 => (pf_Z 4 1 x45 (0 : Int32) x41).bind fun μ49 => (whl (f_X10_settle_L54 a0) ((0 : Int32), μ49)).bind (fun b54 => some b54) else none
abbrev Rn_X10_settle (G : Gv) (Q : Option Value → Mm → Prop) (pc : Nat) (lv : List (Nat × Value)) (st : List Value) (μ : Mm) : Prop := Rn G RX10 cX10_settle 2 none "settle" (rmd 3 0 0) (Zm G 0 0 Q) 0 0 pc lv st μ
set_option maxRecDepth 100000 in
set_option maxHeartbeats 4000000 in
theorem m_X10_settle {G : Gv} (a0 : Nat) (μ : Mm) {r : Mm} (hx : f_X10_settle a0 μ = some r) : Mt G yX10_settle cX10_settle 2 none 3 0 0 [.ref a0] μ (fun v μ' => v = none ∧ μ' = r) := by
  refine Mt.of (by decide) (Nat.le_of_ble_eq_true rfl) ?_
  show Rn_X10_settle G (fun v μ' => v = none ∧ μ' = r) 0 [(0, .ref a0)] [] μ
  obtain ⟨_, h⟩ := Sat_ifp (show Sat (f_X10_settle a0 μ) (fun x => x = r) from ⟨_, hx, rfl⟩)
  refine r_aload_n dX10_settle_0 0 rfl ?_
  refine r_aload_n dX10_settle_1 0 rfl ?_
  obtain ⟨x2, e2, h⟩ := Sat_bind h
  refine r_getP fk_X10_63 rfl e2 dX10_settle_2 ?_
  obtain ⟨x5, e5, h⟩ := Sat_bind h
  refine r_getP fk_X10_100 rfl e5 dX10_settle_5 ?_
  refine r_iconst (v := 0) dX10_settle_8 (by decide) ?_
  obtain ⟨x9, e9, h⟩ := Sat_bind h
  refine r_cV (t := 10) [.int (0 : Int32)] [.ref a0] (m_X9_rowOf x5 (0 : Int32) μ e9) ck_X9_rowOf lk_X10_112 in_X9_rowOf se_X9_rowOf (kd_of e9) ⟨rfl, by decide, by decide⟩ rfl rfl (Nat.le_of_ble_eq_true rfl) ⟨by decide, by decide⟩ ⟨Nat.zero_le _, Nat.zero_le _⟩ dX10_settle_9 ?_
  obtain ⟨μ12, e12, h⟩ := Sat_bind h
  refine r_putI fk_X10_116 rfl rfl e12 dX10_settle_12 ?_
  refine r_aload_n dX10_settle_15 0 rfl ?_
  obtain ⟨x16, e16, h⟩ := Sat_bind h
  refine r_getP fk_X10_84 rfl e16 dX10_settle_16 ?_
  refine r_aload_n dX10_settle_19 0 rfl ?_
  obtain ⟨x20, e20, h⟩ := Sat_bind h
  refine r_getP fk_X10_63 rfl e20 dX10_settle_20 ?_
  obtain ⟨x23, e23, h⟩ := Sat_bind h
  refine r_cV (t := 5) [.ref x20] [] (m_X4_setTown x16 x20 μ12 e23) ck_X4_setTown lk_X10_120 in_X4_setTown se_X4_setTown (kd_of e23) ⟨rfl, by decide, by decide⟩ rfl rfl (Nat.le_of_ble_eq_true rfl) ⟨by decide, by decide⟩ ⟨Nat.zero_le _, Nat.zero_le _⟩ dX10_settle_23 ?_
  refine r_aload_n dX10_settle_26 0 rfl ?_
  obtain ⟨x27, e27, h⟩ := Sat_bind h
  refine r_getP fk_X10_28 rfl e27 dX10_settle_27 ?_
  obtain ⟨x30, e30, h⟩ := Sat_bind h
  refine r_cV (t := 1) [] [] (m_X0_clear x27 x23 e30) ck_X0_clear lk_X10_123 in_X0_clear se_X0_clear (kd_of e30) ⟨rfl, by decide, by decide⟩ rfl rfl (Nat.le_of_ble_eq_true rfl) ⟨by decide, by decide⟩ ⟨Nat.zero_le _, Nat.zero_le _⟩ dX10_settle_30 ?_
  refine r_aload_n dX10_settle_33 0 rfl ?_
  obtain ⟨x34, e34, h⟩ := Sat_bind h
  refine r_getP fk_X10_93 rfl e34 dX10_settle_34 ?_
  refine r_aload_n dX10_settle_37 0 rfl ?_
  obtain ⟨x38, e38, h⟩ := Sat_bind h
  refine r_getP fk_X10_63 rfl e38 dX10_settle_38 ?_
  obtain ⟨x41, e41, h⟩ := Sat_bind h
  refine r_cV (t := 2) [.ref x38] [] (m_X1_setTown x34 x38 x30 e41) ck_X1_setTown lk_X10_124 in_X1_setTown se_X1_setTown (kd_of e41) ⟨rfl, by decide, by decide⟩ rfl rfl (Nat.le_of_ble_eq_true rfl) ⟨by decide, by decide⟩ ⟨Nat.zero_le _, Nat.zero_le _⟩ dX10_settle_41 ?_
  refine r_aload_n dX10_settle_44 0 rfl ?_
  obtain ⟨x45, e45, h⟩ := Sat_bind h
  refine r_getP fk_X10_35 rfl e45 dX10_settle_45 ?_
  refine r_iconst (v := 0) dX10_settle_48 (by decide) ?_
  obtain ⟨μ49, e49, h⟩ := Sat_bind h
  refine r_putZ fk_X10_125 rfl rfl e49 dX10_settle_49 ?_
  refine r_iconst (v := 0) dX10_settle_52 (by decide) ?_
  refine r_istore_n (lv' := [(1, .int (0 : Int32)), (0, .ref a0)]) dX10_settle_53 rfl (by decide) rfl ?_
  refine r_sub (lv' := [(0, .ref a0), (1, .int (0 : Int32))]) [1, 0] rfl ?_
  refine whl_K (s0 := (((0 : Int32), μ49) : Int32 × Mm)) (RR := fun (s54 : Int32 × Mm) => Rn_X10_settle G (fun v μ' => v = none ∧ μ' = r) 54 [(0, .ref a0), (1, .int s54.1)] [] s54.2) ?_ (Sat_bindK h)
  intro s54 K54 hI54 hX54 h
  refine r_iload_n dX10_settle_54 1 rfl ?_
  refine r_aload_n dX10_settle_55 0 rfl ?_
  obtain ⟨x56, e56, h⟩ := Sat_bind h
  refine r_getP fk_X10_39 rfl e56 dX10_settle_56 ?_
  obtain ⟨x59, e59, h⟩ := Sat_bind h
  refine r_len e59 dX10_settle_59 ?_
  refine r_icmp_ge 79 dX10_settle_60 (by decide) (fun c60 => ?_) (fun c60 => ?_)
  · have h := Sat_pos c60 h
    have h := hX54 _ (Sat_some h)
    exact r_vreturn rfl (by rw [← Sat_eq h]; exact ⟨rfl, rfl⟩) dX10_settle_79
  · have h := Sat_neg c60 h
    refine r_aload_n dX10_settle_63 0 rfl ?_
    obtain ⟨x64, e64, h⟩ := Sat_bind h
    refine r_getP fk_X10_39 rfl e64 dX10_settle_64 ?_
    refine r_iload_n dX10_settle_67 1 rfl ?_
    obtain ⟨x68, e68, h⟩ := Sat_bind h
    refine r_aaload (Or.inl rfl) e68 dX10_settle_68 ?_
    refine r_iconst (v := 0) dX10_settle_69 (by decide) ?_
    obtain ⟨μ70, e70, h⟩ := Sat_bind h
    refine r_putZ fk_X10_125 rfl rfl e70 dX10_settle_70 ?_
    obtain ⟨v73, e73, h⟩ := Sat_bind h
    refine r_iinc (j := 1) (v := v73) (lv' := [(1, .int v73), (0, .ref a0)]) dX10_settle_73 rfl (iinc_v e73 (by decide)) (by decide) rfl ?_
    refine r_goto 54 dX10_settle_76 (by decide) ?_
    exact r_sub [1, 0] rfl (hI54 _ (Sat_some h))
theorem dX6_init_0 : decode cX6_init 0 = .ok (.aload_n 0, 1) := by decide +kernel
theorem dX6_init_1 : decode cX6_init 1 = .ok (.invokespecial 3, 3) := by decide +kernel
theorem dX6_init_4 : decode cX6_init 4 = .ok (.aload_n 0, 1) := by decide +kernel
theorem dX6_init_5 : decode cX6_init 5 = .ok (.aload_n 1, 1) := by decide +kernel
theorem dX6_init_6 : decode cX6_init 6 = .ok (.putfield 9, 3) := by decide +kernel
theorem dX6_init_9 : decode cX6_init 9 = .ok (.return_, 1) := by decide +kernel
noncomputable def f_X6_init (a0 : Nat) (l1 : Nat) (μ : Mm) : Option Mm :=
  if (mm_K μ a0).1 = 7 then (pf_P 7 0 a0 l1 μ).bind fun μ6 => some μ6 else none
abbrev Rn_X6_init (G : Gv) (Q : Option Value → Mm → Prop) (pc : Nat) (lv : List (Nat × Value)) (st : List Value) (μ : Mm) : Prop := Rn G RX6 cX6_init 2 none "<init>" (rmd 1 0 0) (Zm G 0 0 Q) 0 0 pc lv st μ
set_option maxRecDepth 100000 in
set_option maxHeartbeats 4000000 in
theorem m_X6_init {G : Gv} (a0 : Nat) (l1 : Nat) (μ : Mm) {r : Mm} (hx : f_X6_init a0 l1 μ = some r) : Mt G yX6_init cX6_init 2 none 1 0 0 [.ref a0, .ref l1] μ (fun v μ' => v = none ∧ μ' = r) := by
  refine Mt.of (by decide) (Nat.le_of_ble_eq_true rfl) ?_
  show Rn_X6_init G (fun v μ' => v = none ∧ μ' = r) 0 [(0, .ref a0), (1, .ref l1)] [] μ
  obtain ⟨_, h⟩ := Sat_ifp (show Sat (f_X6_init a0 l1 μ) (fun x => x = r) from ⟨_, hx, rfl⟩)
  refine r_aload_n dX6_init_0 0 rfl ?_
  refine r_objInit lo_X6_3 lo_in lo_co (Nat.le_of_ble_eq_true rfl) ⟨by decide, by decide⟩ dX6_init_1 ?_
  refine r_aload_n dX6_init_4 0 rfl ?_
  refine r_aload_n dX6_init_5 1 rfl ?_
  obtain ⟨μ6, e6, h⟩ := Sat_bind h
  refine r_putP fk_X6_9 (Or.inr ⟨rfl, rfl, rfl, fl_X6_9⟩) rfl e6 dX6_init_6 ?_
  exact r_vreturn rfl (by rw [← Sat_eq h]; exact ⟨rfl, rfl⟩) dX6_init_9
theorem dX7_clear_0 : decode cX7_clear 0 = .ok (.aload_n 0, 1) := by decide +kernel
theorem dX7_clear_1 : decode cX7_clear 1 = .ok (.iconst 0, 1) := by decide +kernel
theorem dX7_clear_2 : decode cX7_clear 2 = .ok (.putfield 50, 3) := by decide +kernel
theorem dX7_clear_5 : decode cX7_clear 5 = .ok (.aload_n 0, 1) := by decide +kernel
theorem dX7_clear_6 : decode cX7_clear 6 = .ok (.iconst 0, 1) := by decide +kernel
theorem dX7_clear_7 : decode cX7_clear 7 = .ok (.putfield 54, 3) := by decide +kernel
theorem dX7_clear_10 : decode cX7_clear 10 = .ok (.aload_n 0, 1) := by decide +kernel
theorem dX7_clear_11 : decode cX7_clear 11 = .ok (.iconst 0, 1) := by decide +kernel
theorem dX7_clear_12 : decode cX7_clear 12 = .ok (.putfield 57, 3) := by decide +kernel
theorem dX7_clear_15 : decode cX7_clear 15 = .ok (.aload_n 0, 1) := by decide +kernel
theorem dX7_clear_16 : decode cX7_clear 16 = .ok (.iconst 0, 1) := by decide +kernel
theorem dX7_clear_17 : decode cX7_clear 17 = .ok (.putfield 60, 3) := by decide +kernel
theorem dX7_clear_20 : decode cX7_clear 20 = .ok (.aload_n 0, 1) := by decide +kernel
theorem dX7_clear_21 : decode cX7_clear 21 = .ok (.iconst 0, 1) := by decide +kernel
theorem dX7_clear_22 : decode cX7_clear 22 = .ok (.putfield 63, 3) := by decide +kernel
theorem dX7_clear_25 : decode cX7_clear 25 = .ok (.aload_n 0, 1) := by decide +kernel
theorem dX7_clear_26 : decode cX7_clear 26 = .ok (.iconst 0, 1) := by decide +kernel
theorem dX7_clear_27 : decode cX7_clear 27 = .ok (.putfield 66, 3) := by decide +kernel
theorem dX7_clear_30 : decode cX7_clear 30 = .ok (.aload_n 0, 1) := by decide +kernel
theorem dX7_clear_31 : decode cX7_clear 31 = .ok (.bipush 28, 2) := by decide +kernel
theorem dX7_clear_33 : decode cX7_clear 33 = .ok (.putfield 69, 3) := by decide +kernel
theorem dX7_clear_36 : decode cX7_clear 36 = .ok (.aload_n 0, 1) := by decide +kernel
theorem dX7_clear_37 : decode cX7_clear 37 = .ok (.iconst 0, 1) := by decide +kernel
theorem dX7_clear_38 : decode cX7_clear 38 = .ok (.putfield 72, 3) := by decide +kernel
theorem dX7_clear_41 : decode cX7_clear 41 = .ok (.aload_n 0, 1) := by decide +kernel
theorem dX7_clear_42 : decode cX7_clear 42 = .ok (.getfield 27, 3) := by decide +kernel
theorem dX7_clear_45 : decode cX7_clear 45 = .ok (.iconst 0, 1) := by decide +kernel
theorem dX7_clear_46 : decode cX7_clear 46 = .ok (.putfield 75, 3) := by decide +kernel
theorem dX7_clear_49 : decode cX7_clear 49 = .ok (.aload_n 0, 1) := by decide +kernel
theorem dX7_clear_50 : decode cX7_clear 50 = .ok (.getfield 31, 3) := by decide +kernel
theorem dX7_clear_53 : decode cX7_clear 53 = .ok (.iconst 0, 1) := by decide +kernel
theorem dX7_clear_54 : decode cX7_clear 54 = .ok (.putfield 75, 3) := by decide +kernel
theorem dX7_clear_57 : decode cX7_clear 57 = .ok (.aload_n 0, 1) := by decide +kernel
theorem dX7_clear_58 : decode cX7_clear 58 = .ok (.getfield 34, 3) := by decide +kernel
theorem dX7_clear_61 : decode cX7_clear 61 = .ok (.iconst 0, 1) := by decide +kernel
theorem dX7_clear_62 : decode cX7_clear 62 = .ok (.putfield 75, 3) := by decide +kernel
theorem dX7_clear_65 : decode cX7_clear 65 = .ok (.aload_n 0, 1) := by decide +kernel
theorem dX7_clear_66 : decode cX7_clear 66 = .ok (.getfield 37, 3) := by decide +kernel
theorem dX7_clear_69 : decode cX7_clear 69 = .ok (.iconst 0, 1) := by decide +kernel
theorem dX7_clear_70 : decode cX7_clear 70 = .ok (.putfield 75, 3) := by decide +kernel
theorem dX7_clear_73 : decode cX7_clear 73 = .ok (.aload_n 0, 1) := by decide +kernel
theorem dX7_clear_74 : decode cX7_clear 74 = .ok (.getfield 40, 3) := by decide +kernel
theorem dX7_clear_77 : decode cX7_clear 77 = .ok (.iconst 0, 1) := by decide +kernel
theorem dX7_clear_78 : decode cX7_clear 78 = .ok (.putfield 75, 3) := by decide +kernel
theorem dX7_clear_81 : decode cX7_clear 81 = .ok (.aload_n 0, 1) := by decide +kernel
theorem dX7_clear_82 : decode cX7_clear 82 = .ok (.getfield 15, 3) := by decide +kernel
theorem dX7_clear_85 : decode cX7_clear 85 = .ok (.iconst (-1), 1) := by decide +kernel
theorem dX7_clear_86 : decode cX7_clear 86 = .ok (.invokestatic 78, 3) := by decide +kernel
theorem dX7_clear_89 : decode cX7_clear 89 = .ok (.aload_n 0, 1) := by decide +kernel
theorem dX7_clear_90 : decode cX7_clear 90 = .ok (.getfield 19, 3) := by decide +kernel
theorem dX7_clear_93 : decode cX7_clear 93 = .ok (.iconst 0, 1) := by decide +kernel
theorem dX7_clear_94 : decode cX7_clear 94 = .ok (.invokestatic 78, 3) := by decide +kernel
theorem dX7_clear_97 : decode cX7_clear 97 = .ok (.return_, 1) := by decide +kernel
noncomputable def f_X7_clear (a0 : Nat) (μ : Mm) : Option Mm :=
  if (mm_K μ a0).1 = 8 then (pf_I 8 9 a0 (0 : Int32) μ).bind fun μ2 => (pf_I 8 10 a0 (0 : Int32) μ2).bind fun μ7 => (pf_I 8 11 a0 (0 : Int32) μ7).bind fun μ12 => (pf_I 8 12 a0 (0 : Int32) μ12).bind fun μ17 => (pf_I 8 13 a0 (0 : Int32) μ17).bind fun μ22 => (pf_I 8 14 a0 (0 : Int32) μ22).bind fun μ27 => (pf_I 8 15 a0 (28 : Int32) μ27).bind fun μ33 => (pf_I 8 16 a0 (0 : Int32) μ33).bind fun μ38 => (gf_P 8 3 a0 μ38).bind fun x42 => (pf_I 3 1 x42 (0 : Int32) μ38).bind fun μ46 => (gf_P 8 4 a0 μ46).bind fun x50 => (pf_I 3 1 x50 (0 : Int32) μ46).bind fun μ54 => (gf_P 8 5 a0 μ54).bind fun x58 => (pf_I 3 1 x58 (0 : Int32) μ54).bind fun μ62 => (gf_P 8 6 a0 μ62).bind fun x66 => (pf_I 3 1 x66 (0 : Int32) μ62).bind fun μ70 => (gf_P 8 7 a0 μ70).bind fun x74 => (pf_I 3 1 x74 (0 : Int32) μ70).bind fun μ78 => (gf_P 8 1 a0 μ78).bind fun x82 => (f_J7_fill_53178 x82 (-1 : Int32) μ78).bind fun x86 => (gf_P 8 2 a0 x86).bind fun x90 => (f_J7_fill_53178 x90 (0 : Int32) x86).bind fun x94 => some x94 else none
abbrev Rn_X7_clear (G : Gv) (Q : Option Value → Mm → Prop) (pc : Nat) (lv : List (Nat × Value)) (st : List Value) (μ : Mm) : Prop := Rn G RX7 cX7_clear 1 none "clear" (rmd 1 0 0) (Zm G 0 0 Q) 0 0 pc lv st μ
set_option maxRecDepth 100000 in
set_option maxHeartbeats 4000000 in
theorem m_X7_clear {G : Gv} (a0 : Nat) (μ : Mm) {r : Mm} (hx : f_X7_clear a0 μ = some r) : Mt G yX7_clear cX7_clear 1 none 1 0 0 [.ref a0] μ (fun v μ' => v = none ∧ μ' = r) := by
  refine Mt.of (by decide) (Nat.le_of_ble_eq_true rfl) ?_
  show Rn_X7_clear G (fun v μ' => v = none ∧ μ' = r) 0 [(0, .ref a0)] [] μ
  obtain ⟨_, h⟩ := Sat_ifp (show Sat (f_X7_clear a0 μ) (fun x => x = r) from ⟨_, hx, rfl⟩)
  refine r_aload_n dX7_clear_0 0 rfl ?_
  refine r_iconst (v := 0) dX7_clear_1 (by decide) ?_
  obtain ⟨μ2, e2, h⟩ := Sat_bind h
  refine r_putI fk_X7_50 rfl rfl e2 dX7_clear_2 ?_
  refine r_aload_n dX7_clear_5 0 rfl ?_
  refine r_iconst (v := 0) dX7_clear_6 (by decide) ?_
  obtain ⟨μ7, e7, h⟩ := Sat_bind h
  refine r_putI fk_X7_54 rfl rfl e7 dX7_clear_7 ?_
  refine r_aload_n dX7_clear_10 0 rfl ?_
  refine r_iconst (v := 0) dX7_clear_11 (by decide) ?_
  obtain ⟨μ12, e12, h⟩ := Sat_bind h
  refine r_putI fk_X7_57 rfl rfl e12 dX7_clear_12 ?_
  refine r_aload_n dX7_clear_15 0 rfl ?_
  refine r_iconst (v := 0) dX7_clear_16 (by decide) ?_
  obtain ⟨μ17, e17, h⟩ := Sat_bind h
  refine r_putI fk_X7_60 rfl rfl e17 dX7_clear_17 ?_
  refine r_aload_n dX7_clear_20 0 rfl ?_
  refine r_iconst (v := 0) dX7_clear_21 (by decide) ?_
  obtain ⟨μ22, e22, h⟩ := Sat_bind h
  refine r_putI fk_X7_63 rfl rfl e22 dX7_clear_22 ?_
  refine r_aload_n dX7_clear_25 0 rfl ?_
  refine r_iconst (v := 0) dX7_clear_26 (by decide) ?_
  obtain ⟨μ27, e27, h⟩ := Sat_bind h
  refine r_putI fk_X7_66 rfl rfl e27 dX7_clear_27 ?_
  refine r_aload_n dX7_clear_30 0 rfl ?_
  refine r_bipush (v := 28) dX7_clear_31 (by decide) ?_
  obtain ⟨μ33, e33, h⟩ := Sat_bind h
  refine r_putI fk_X7_69 rfl rfl e33 dX7_clear_33 ?_
  refine r_aload_n dX7_clear_36 0 rfl ?_
  refine r_iconst (v := 0) dX7_clear_37 (by decide) ?_
  obtain ⟨μ38, e38, h⟩ := Sat_bind h
  refine r_putI fk_X7_72 rfl rfl e38 dX7_clear_38 ?_
  refine r_aload_n dX7_clear_41 0 rfl ?_
  obtain ⟨x42, e42, h⟩ := Sat_bind h
  refine r_getP fk_X7_27 rfl e42 dX7_clear_42 ?_
  refine r_iconst (v := 0) dX7_clear_45 (by decide) ?_
  obtain ⟨μ46, e46, h⟩ := Sat_bind h
  refine r_putI fk_X7_75 rfl rfl e46 dX7_clear_46 ?_
  refine r_aload_n dX7_clear_49 0 rfl ?_
  obtain ⟨x50, e50, h⟩ := Sat_bind h
  refine r_getP fk_X7_31 rfl e50 dX7_clear_50 ?_
  refine r_iconst (v := 0) dX7_clear_53 (by decide) ?_
  obtain ⟨μ54, e54, h⟩ := Sat_bind h
  refine r_putI fk_X7_75 rfl rfl e54 dX7_clear_54 ?_
  refine r_aload_n dX7_clear_57 0 rfl ?_
  obtain ⟨x58, e58, h⟩ := Sat_bind h
  refine r_getP fk_X7_34 rfl e58 dX7_clear_58 ?_
  refine r_iconst (v := 0) dX7_clear_61 (by decide) ?_
  obtain ⟨μ62, e62, h⟩ := Sat_bind h
  refine r_putI fk_X7_75 rfl rfl e62 dX7_clear_62 ?_
  refine r_aload_n dX7_clear_65 0 rfl ?_
  obtain ⟨x66, e66, h⟩ := Sat_bind h
  refine r_getP fk_X7_37 rfl e66 dX7_clear_66 ?_
  refine r_iconst (v := 0) dX7_clear_69 (by decide) ?_
  obtain ⟨μ70, e70, h⟩ := Sat_bind h
  refine r_putI fk_X7_75 rfl rfl e70 dX7_clear_70 ?_
  refine r_aload_n dX7_clear_73 0 rfl ?_
  obtain ⟨x74, e74, h⟩ := Sat_bind h
  refine r_getP fk_X7_40 rfl e74 dX7_clear_74 ?_
  refine r_iconst (v := 0) dX7_clear_77 (by decide) ?_
  obtain ⟨μ78, e78, h⟩ := Sat_bind h
  refine r_putI fk_X7_75 rfl rfl e78 dX7_clear_78 ?_
  refine r_aload_n dX7_clear_81 0 rfl ?_
  obtain ⟨x82, e82, h⟩ := Sat_bind h
  refine r_getP fk_X7_15 rfl e82 dX7_clear_82 ?_
  refine r_iconst (v := -1) dX7_clear_85 (by decide) ?_
  obtain ⟨x86, e86, h⟩ := Sat_bind h
  refine r_cS [.ref x82, .int (-1 : Int32)] [] (m_J7_fill_53178 x82 (-1 : Int32) μ78 e86) ck_J7_fill_53178 lk_X7_78 st_J7_fill_53178 rfl rfl (Nat.le_of_ble_eq_true rfl) ⟨by decide, by decide⟩ ⟨Nat.zero_le _, Nat.zero_le _⟩ dX7_clear_86 ?_
  refine r_aload_n dX7_clear_89 0 rfl ?_
  obtain ⟨x90, e90, h⟩ := Sat_bind h
  refine r_getP fk_X7_19 rfl e90 dX7_clear_90 ?_
  refine r_iconst (v := 0) dX7_clear_93 (by decide) ?_
  obtain ⟨x94, e94, h⟩ := Sat_bind h
  refine r_cS [.ref x90, .int (0 : Int32)] [] (m_J7_fill_53178 x90 (0 : Int32) x86 e94) ck_J7_fill_53178 lk_X7_78 st_J7_fill_53178 rfl rfl (Nat.le_of_ble_eq_true rfl) ⟨by decide, by decide⟩ ⟨Nat.zero_le _, Nat.zero_le _⟩ dX7_clear_94 ?_
  exact r_vreturn rfl (by rw [← Sat_eq h]; exact ⟨rfl, rfl⟩) dX7_clear_97
theorem dX8_init_0 : decode cX8_init 0 = .ok (.aload_n 0, 1) := by decide +kernel
theorem dX8_init_1 : decode cX8_init 1 = .ok (.invokespecial 3, 3) := by decide +kernel
theorem dX8_init_4 : decode cX8_init 4 = .ok (.aload_n 0, 1) := by decide +kernel
theorem dX8_init_5 : decode cX8_init 5 = .ok (.iconst (-1), 1) := by decide +kernel
theorem dX8_init_6 : decode cX8_init 6 = .ok (.putfield 9, 3) := by decide +kernel
theorem dX8_init_9 : decode cX8_init 9 = .ok (.aload_n 0, 1) := by decide +kernel
theorem dX8_init_10 : decode cX8_init 10 = .ok (.aload_n 1, 1) := by decide +kernel
theorem dX8_init_11 : decode cX8_init 11 = .ok (.putfield 15, 3) := by decide +kernel
theorem dX8_init_14 : decode cX8_init 14 = .ok (.aload_n 0, 1) := by decide +kernel
theorem dX8_init_15 : decode cX8_init 15 = .ok (.aload_n 2, 1) := by decide +kernel
theorem dX8_init_16 : decode cX8_init 16 = .ok (.putfield 19, 3) := by decide +kernel
theorem dX8_init_19 : decode cX8_init 19 = .ok (.return_, 1) := by decide +kernel
noncomputable def f_X8_init (a0 : Nat) (l1 : Nat) (l2 : Nat) (μ : Mm) : Option Mm :=
  if (mm_K μ a0).1 = 9 then (pf_I 9 4 a0 (-1 : Int32) μ).bind fun μ6 => (pf_P 9 0 a0 l1 μ6).bind fun μ11 => (pf_P 9 1 a0 l2 μ11).bind fun μ16 => some μ16 else none
abbrev Rn_X8_init (G : Gv) (Q : Option Value → Mm → Prop) (pc : Nat) (lv : List (Nat × Value)) (st : List Value) (μ : Mm) : Prop := Rn G RX8 cX8_init 3 none "<init>" (rmd 1 0 0) (Zm G 0 0 Q) 0 0 pc lv st μ
set_option maxRecDepth 100000 in
set_option maxHeartbeats 4000000 in
theorem m_X8_init {G : Gv} (a0 : Nat) (l1 : Nat) (l2 : Nat) (μ : Mm) {r : Mm} (hx : f_X8_init a0 l1 l2 μ = some r) : Mt G yX8_init cX8_init 3 none 1 0 0 [.ref a0, .ref l1, .ref l2] μ (fun v μ' => v = none ∧ μ' = r) := by
  refine Mt.of (by decide) (Nat.le_of_ble_eq_true rfl) ?_
  show Rn_X8_init G (fun v μ' => v = none ∧ μ' = r) 0 [(0, .ref a0), (1, .ref l1), (2, .ref l2)] [] μ
  obtain ⟨_, h⟩ := Sat_ifp (show Sat (f_X8_init a0 l1 l2 μ) (fun x => x = r) from ⟨_, hx, rfl⟩)
  refine r_aload_n dX8_init_0 0 rfl ?_
  refine r_objInit lo_X8_3 lo_in lo_co (Nat.le_of_ble_eq_true rfl) ⟨by decide, by decide⟩ dX8_init_1 ?_
  refine r_aload_n dX8_init_4 0 rfl ?_
  refine r_iconst (v := -1) dX8_init_5 (by decide) ?_
  obtain ⟨μ6, e6, h⟩ := Sat_bind h
  refine r_putI fk_X8_9 rfl rfl e6 dX8_init_6 ?_
  refine r_aload_n dX8_init_9 0 rfl ?_
  refine r_aload_n dX8_init_10 1 rfl ?_
  obtain ⟨μ11, e11, h⟩ := Sat_bind h
  refine r_putP fk_X8_15 (Or.inr ⟨rfl, rfl, rfl, fl_X8_15⟩) rfl e11 dX8_init_11 ?_
  refine r_aload_n dX8_init_14 0 rfl ?_
  refine r_aload_n dX8_init_15 2 rfl ?_
  obtain ⟨μ16, e16, h⟩ := Sat_bind h
  refine r_putP fk_X8_19 (Or.inl rfl) rfl e16 dX8_init_16 ?_
  exact r_vreturn rfl (by rw [← Sat_eq h]; exact ⟨rfl, rfl⟩) dX8_init_19
theorem dX7_toldDreamOf_0 : decode cX7_toldDreamOf 0 = .ok (.aload_n 0, 1) := by decide +kernel
theorem dX7_toldDreamOf_1 : decode cX7_toldDreamOf 1 = .ok (.iload_n 1, 1) := by decide +kernel
theorem dX7_toldDreamOf_2 : decode cX7_toldDreamOf 2 = .ok (.invokevirtual 84, 3) := by decide +kernel
theorem dX7_toldDreamOf_5 : decode cX7_toldDreamOf 5 = .ok (.ifCond .eq 12, 3) := by decide +kernel
theorem dX7_toldDreamOf_8 : decode cX7_toldDreamOf 8 = .ok (.aload_n 0, 1) := by decide +kernel
theorem dX7_toldDreamOf_9 : decode cX7_toldDreamOf 9 = .ok (.getfield 15, 3) := by decide +kernel
theorem dX7_toldDreamOf_12 : decode cX7_toldDreamOf 12 = .ok (.iload_n 1, 1) := by decide +kernel
theorem dX7_toldDreamOf_13 : decode cX7_toldDreamOf 13 = .ok (.iaload, 1) := by decide +kernel
theorem dX7_toldDreamOf_14 : decode cX7_toldDreamOf 14 = .ok (.goto 4, 3) := by decide +kernel
theorem dX7_toldDreamOf_17 : decode cX7_toldDreamOf 17 = .ok (.iconst (-1), 1) := by decide +kernel
theorem dX7_toldDreamOf_18 : decode cX7_toldDreamOf 18 = .ok (.ireturn, 1) := by decide +kernel
noncomputable def f_X7_toldDreamOf (a0 : Nat) (l1 : Int32) (μ : Mm) : Option Int32 :=
  if (mm_K μ a0).1 = 8 then (f_X7_isPerson a0 l1 μ).bind fun x2 => if x2 = 0 then some (-1 : Int32) else (gf_P 8 1 a0 μ).bind fun x9 => (ga_I x9 l1 μ).bind fun x13 => some x13 else none
abbrev Rn_X7_toldDreamOf (G : Gv) (Q : Option Value → Mm → Prop) (pc : Nat) (lv : List (Nat × Value)) (st : List Value) (μ : Mm) : Prop := Rn G RX7 cX7_toldDreamOf 2 (some .int) "toldDreamOf" (rmd 1 0 0) (Zm G 0 0 Q) 0 0 pc lv st μ
set_option maxRecDepth 100000 in
set_option maxHeartbeats 4000000 in
theorem m_X7_toldDreamOf {G : Gv} (a0 : Nat) (l1 : Int32) (μ : Mm) {r : Int32} (hx : f_X7_toldDreamOf a0 l1 μ = some r) : Mt G yX7_toldDreamOf cX7_toldDreamOf 2 (some .int) 1 0 0 [.ref a0, .int l1] μ (fun v μ' => v = some (.int r) ∧ μ' = μ) := by
  refine Mt.of (by decide) (Nat.le_of_ble_eq_true rfl) ?_
  show Rn_X7_toldDreamOf G (fun v μ' => v = some (.int r) ∧ μ' = μ) 0 [(0, .ref a0), (1, .int l1)] [] μ
  obtain ⟨_, h⟩ := Sat_ifp (show Sat (f_X7_toldDreamOf a0 l1 μ) (fun x => x = r) from ⟨_, hx, rfl⟩)
  refine r_aload_n dX7_toldDreamOf_0 0 rfl ?_
  refine r_iload_n dX7_toldDreamOf_1 1 rfl ?_
  obtain ⟨x2, e2, h⟩ := Sat_bind h
  refine r_cV (t := 8) [.int l1] [] (m_X7_isPerson a0 l1 μ e2) ck_X7_isPerson lk_X7_84 in_X7_isPerson se_X7_isPerson (kd_of e2) ⟨rfl, by decide, by decide⟩ rfl rfl (Nat.le_of_ble_eq_true rfl) ⟨by decide, by decide⟩ ⟨Nat.zero_le _, Nat.zero_le _⟩ dX7_toldDreamOf_2 ?_
  refine r_if_eq 17 dX7_toldDreamOf_5 (by decide) (fun c5 => ?_) (fun c5 => ?_)
  · have h := Sat_pos c5 h
    refine r_iconst (v := -1) dX7_toldDreamOf_17 (by decide) ?_
    exact r_ireturn rfl (by rw [← Sat_eq h]; exact ⟨rfl, rfl⟩) dX7_toldDreamOf_18
  · have h := Sat_neg c5 h
    refine r_aload_n dX7_toldDreamOf_8 0 rfl ?_
    obtain ⟨x9, e9, h⟩ := Sat_bind h
    refine r_getP fk_X7_15 rfl e9 dX7_toldDreamOf_9 ?_
    refine r_iload_n dX7_toldDreamOf_12 1 rfl ?_
    obtain ⟨x13, e13, h⟩ := Sat_bind h
    refine r_iaload e13 dX7_toldDreamOf_13 ?_
    refine r_goto 18 dX7_toldDreamOf_14 (by decide) ?_
    exact r_ireturn rfl (by rw [← Sat_eq h]; exact ⟨rfl, rfl⟩) dX7_toldDreamOf_18
theorem dX9_waysOn_0 : decode cX9_waysOn 0 = .ok (.iload_n 1, 1) := by decide +kernel
theorem dX9_waysOn_1 : decode cX9_waysOn 1 = .ok (.invokestatic 47, 3) := by decide +kernel
theorem dX9_waysOn_4 : decode cX9_waysOn 4 = .ok (.istore_n 2, 1) := by decide +kernel
theorem dX9_waysOn_5 : decode cX9_waysOn 5 = .ok (.iload_n 2, 1) := by decide +kernel
theorem dX9_waysOn_6 : decode cX9_waysOn 6 = .ok (.aload_n 0, 1) := by decide +kernel
theorem dX9_waysOn_7 : decode cX9_waysOn 7 = .ok (.getfield 21, 3) := by decide +kernel
theorem dX9_waysOn_10 : decode cX9_waysOn 10 = .ok (.if_icmp .lt 5, 3) := by decide +kernel
theorem dX9_waysOn_13 : decode cX9_waysOn 13 = .ok (.iconst 1, 1) := by decide +kernel
theorem dX9_waysOn_14 : decode cX9_waysOn 14 = .ok (.ireturn, 1) := by decide +kernel
theorem dX9_waysOn_15 : decode cX9_waysOn 15 = .ok (.aload_n 0, 1) := by decide +kernel
theorem dX9_waysOn_16 : decode cX9_waysOn 16 = .ok (.getfield 15, 3) := by decide +kernel
theorem dX9_waysOn_19 : decode cX9_waysOn 19 = .ok (.aload_n 0, 1) := by decide +kernel
theorem dX9_waysOn_20 : decode cX9_waysOn 20 = .ok (.getfield 9, 3) := by decide +kernel
theorem dX9_waysOn_23 : decode cX9_waysOn 23 = .ok (.iload_n 2, 1) := by decide +kernel
theorem dX9_waysOn_24 : decode cX9_waysOn 24 = .ok (.iaload, 1) := by decide +kernel
theorem dX9_waysOn_25 : decode cX9_waysOn 25 = .ok (.iaload, 1) := by decide +kernel
theorem dX9_waysOn_26 : decode cX9_waysOn 26 = .ok (.iload_n 1, 1) := by decide +kernel
theorem dX9_waysOn_27 : decode cX9_waysOn 27 = .ok (.iconst (-1), 1) := by decide +kernel
theorem dX9_waysOn_28 : decode cX9_waysOn 28 = .ok (.ixor, 1) := by decide +kernel
theorem dX9_waysOn_29 : decode cX9_waysOn 29 = .ok (.iand, 1) := by decide +kernel
theorem dX9_waysOn_30 : decode cX9_waysOn 30 = .ok (.istore_n 3, 1) := by decide +kernel
theorem dX9_waysOn_31 : decode cX9_waysOn 31 = .ok (.iconst 0, 1) := by decide +kernel
theorem dX9_waysOn_32 : decode cX9_waysOn 32 = .ok (.istore 4, 2) := by decide +kernel
theorem dX9_waysOn_34 : decode cX9_waysOn 34 = .ok (.iconst 0, 1) := by decide +kernel
theorem dX9_waysOn_35 : decode cX9_waysOn 35 = .ok (.istore 5, 2) := by decide +kernel
theorem dX9_waysOn_37 : decode cX9_waysOn 37 = .ok (.iload 5, 2) := by decide +kernel
theorem dX9_waysOn_39 : decode cX9_waysOn 39 = .ok (.bipush 8, 2) := by decide +kernel
theorem dX9_waysOn_41 : decode cX9_waysOn 41 = .ok (.if_icmp .ge 34, 3) := by decide +kernel
theorem dX9_waysOn_44 : decode cX9_waysOn 44 = .ok (.iload_n 3, 1) := by decide +kernel
theorem dX9_waysOn_45 : decode cX9_waysOn 45 = .ok (.iload 5, 2) := by decide +kernel
theorem dX9_waysOn_47 : decode cX9_waysOn 47 = .ok (.ishr, 1) := by decide +kernel
theorem dX9_waysOn_48 : decode cX9_waysOn 48 = .ok (.iconst 1, 1) := by decide +kernel
theorem dX9_waysOn_49 : decode cX9_waysOn 49 = .ok (.iand, 1) := by decide +kernel
theorem dX9_waysOn_50 : decode cX9_waysOn 50 = .ok (.ifCond .eq 19, 3) := by decide +kernel
theorem dX9_waysOn_53 : decode cX9_waysOn 53 = .ok (.iload 4, 2) := by decide +kernel
theorem dX9_waysOn_55 : decode cX9_waysOn 55 = .ok (.aload_n 0, 1) := by decide +kernel
theorem dX9_waysOn_56 : decode cX9_waysOn 56 = .ok (.getfield 18, 3) := by decide +kernel
theorem dX9_waysOn_59 : decode cX9_waysOn 59 = .ok (.iload_n 1, 1) := by decide +kernel
theorem dX9_waysOn_60 : decode cX9_waysOn 60 = .ok (.iconst 1, 1) := by decide +kernel
theorem dX9_waysOn_61 : decode cX9_waysOn 61 = .ok (.iload 5, 2) := by decide +kernel
theorem dX9_waysOn_63 : decode cX9_waysOn 63 = .ok (.ishl, 1) := by decide +kernel
theorem dX9_waysOn_64 : decode cX9_waysOn 64 = .ok (.ior, 1) := by decide +kernel
theorem dX9_waysOn_65 : decode cX9_waysOn 65 = .ok (.iaload, 1) := by decide +kernel
theorem dX9_waysOn_66 : decode cX9_waysOn 66 = .ok (.iadd, 1) := by decide +kernel
theorem dX9_waysOn_67 : decode cX9_waysOn 67 = .ok (.istore 4, 2) := by decide +kernel
theorem dX9_waysOn_69 : decode cX9_waysOn 69 = .ok (.iinc 5 1, 3) := by decide +kernel
theorem dX9_waysOn_72 : decode cX9_waysOn 72 = .ok (.goto (-35), 3) := by decide +kernel
theorem dX9_waysOn_75 : decode cX9_waysOn 75 = .ok (.iload 4, 2) := by decide +kernel
theorem dX9_waysOn_77 : decode cX9_waysOn 77 = .ok (.ireturn, 1) := by decide +kernel
noncomputable def f_X9_waysOn_J69 (a0 : Nat) (l1 : Int32) (l3 : Int32) (l4 : Int32) (l5 : Int32) (μ : Mm) : Option ((Int32 × Int32) ⊕ (Int32)) :=
  (some (l5 + (1 : Int32))).bind fun v69 => some (.inl (l4, v69))
noncomputable def f_X9_waysOn_L37 (a0 : Nat) (l1 : Int32) (l3 : Int32) (μ : Mm) (s37 : Int32 × Int32) : Option ((Int32 × Int32) ⊕ (Int32)) :=
  if (8 : Int32) ≤ s37.2 then some (.inr s37.1) else if ((l3 >>> (s37.2 &&& 31)) &&& (1 : Int32)) = 0 then f_X9_waysOn_J69 a0 l1 l3 s37.1 s37.2 μ else (gf_P 10 2 a0 μ).bind fun x56 => (ga_I x56 (l1 ||| ((1 : Int32) <<< (s37.2 &&& 31))) μ).bind fun x65 => (some (s37.1 + x65)).bind fun v67 => f_X9_waysOn_J69 a0 l1 l3 v67 s37.2 μ
noncomputable def f_X9_waysOn (a0 : Nat) (l1 : Int32) (μ : Mm) : Option Int32 :=
  if (mm_K μ a0).1 = 10 then (f_J6_bitCount_0f7a4 l1 μ).bind fun x1 => (gf_I 10 3 a0 μ).bind fun x7 => if x1 < x7 then (gf_P 10 1 a0 μ).bind fun x16 => (gf_P 10 0 a0 μ).bind fun x20 => (ga_I x20 x1 μ).bind fun x24 => (ga_I x16 x24 μ).bind fun x25 => (some (x25 &&& (l1 ^^^ (-1 : Int32)))).bind fun v30 => (whl (f_X9_waysOn_L37 a0 l1 v30 μ) ((0 : Int32), (0 : Int32))).bind (fun b37 => some b37) else some (1 : Int32) else none
abbrev Rn_X9_waysOn (G : Gv) (Q : Option Value → Mm → Prop) (pc : Nat) (lv : List (Nat × Value)) (st : List Value) (μ : Mm) : Prop := Rn G RX9 cX9_waysOn 6 (some .int) "waysOn" (rmd 1 0 0) (Zm G 0 0 Q) 0 0 pc lv st μ
set_option maxRecDepth 100000 in
set_option maxHeartbeats 4000000 in
theorem m_X9_waysOn {G : Gv} (a0 : Nat) (l1 : Int32) (μ : Mm) {r : Int32} (hx : f_X9_waysOn a0 l1 μ = some r) : Mt G yX9_waysOn cX9_waysOn 6 (some .int) 1 0 0 [.ref a0, .int l1] μ (fun v μ' => v = some (.int r) ∧ μ' = μ) := by
  refine Mt.of (by decide) (Nat.le_of_ble_eq_true rfl) ?_
  show Rn_X9_waysOn G (fun v μ' => v = some (.int r) ∧ μ' = μ) 0 [(0, .ref a0), (1, .int l1)] [] μ
  obtain ⟨_, h⟩ := Sat_ifp (show Sat (f_X9_waysOn a0 l1 μ) (fun x => x = r) from ⟨_, hx, rfl⟩)
  refine r_iload_n dX9_waysOn_0 1 rfl ?_
  obtain ⟨x1, e1, h⟩ := Sat_bind h
  refine r_cS [.int l1] [] (m_J6_bitCount_0f7a4 l1 μ e1) ck_J6_bitCount_0f7a4 lk_X9_47 st_J6_bitCount_0f7a4 rfl rfl (Nat.le_of_ble_eq_true rfl) ⟨by decide, by decide⟩ ⟨Nat.zero_le _, Nat.zero_le _⟩ dX9_waysOn_1 ?_
  refine r_istore_n (lv' := [(2, .int x1), (0, .ref a0), (1, .int l1)]) dX9_waysOn_4 rfl (by decide) rfl ?_
  refine r_iload_n dX9_waysOn_5 0 rfl ?_
  refine r_aload_n dX9_waysOn_6 1 rfl ?_
  obtain ⟨x7, e7, h⟩ := Sat_bind h
  refine r_getI fk_X9_21 rfl e7 dX9_waysOn_7 ?_
  refine r_icmp_lt 15 dX9_waysOn_10 (by decide) (fun c10 => ?_) (fun c10 => ?_)
  · have h := Sat_pos c10 h
    refine r_aload_n dX9_waysOn_15 1 rfl ?_
    obtain ⟨x16, e16, h⟩ := Sat_bind h
    refine r_getP fk_X9_15 rfl e16 dX9_waysOn_16 ?_
    refine r_aload_n dX9_waysOn_19 1 rfl ?_
    obtain ⟨x20, e20, h⟩ := Sat_bind h
    refine r_getP fk_X9_9 rfl e20 dX9_waysOn_20 ?_
    refine r_iload_n dX9_waysOn_23 0 rfl ?_
    obtain ⟨x24, e24, h⟩ := Sat_bind h
    refine r_iaload e24 dX9_waysOn_24 ?_
    obtain ⟨x25, e25, h⟩ := Sat_bind h
    refine r_iaload e25 dX9_waysOn_25 ?_
    refine r_iload_n dX9_waysOn_26 2 rfl ?_
    refine r_iconst (v := -1) dX9_waysOn_27 (by decide) ?_
    refine r_ixor dX9_waysOn_28 ?_
    refine r_iand dX9_waysOn_29 ?_
    obtain ⟨v30, e30, h⟩ := Sat_bind h
    refine r_topi (Option.some.inj e30) ?_
    refine r_istore_n (lv' := [(3, .int v30), (2, .int x1), (0, .ref a0), (1, .int l1)]) dX9_waysOn_30 rfl (by decide) rfl ?_
    refine r_iconst (v := 0) dX9_waysOn_31 (by decide) ?_
    refine r_istore (lv' := [(4, .int (0 : Int32)), (3, .int v30), (2, .int x1), (0, .ref a0), (1, .int l1)]) dX9_waysOn_32 (by decide) rfl ?_
    refine r_iconst (v := 0) dX9_waysOn_34 (by decide) ?_
    refine r_istore (lv' := [(5, .int (0 : Int32)), (4, .int (0 : Int32)), (3, .int v30), (2, .int x1), (0, .ref a0), (1, .int l1)]) dX9_waysOn_35 (by decide) rfl ?_
    refine r_sub (lv' := [(0, .ref a0), (1, .int l1), (3, .int v30), (4, .int (0 : Int32)), (5, .int (0 : Int32))]) [4, 5, 2, 1, 0] rfl ?_
    refine whl_K (s0 := (((0 : Int32), (0 : Int32)) : Int32 × Int32)) (RR := fun (s37 : Int32 × Int32) => Rn_X9_waysOn G (fun v μ' => v = some (.int r) ∧ μ' = μ) 37 [(0, .ref a0), (1, .int l1), (3, .int v30), (4, .int s37.1), (5, .int s37.2)] [] μ) ?_ (Sat_bindK h)
    intro s37 K37 hI37 hX37 h
    have J69 : ∀ (l4_69 : Int32) (l5_69 : Int32), Sat (f_X9_waysOn_J69 a0 l1 v30 l4_69 l5_69 μ) K37 → Rn_X9_waysOn G (fun v μ' => v = some (.int r) ∧ μ' = μ) 69 [(0, .ref a0), (1, .int l1), (3, .int v30), (4, .int l4_69), (5, .int l5_69)] [] μ := by
      intro l4_69 l5_69 h
      obtain ⟨v69, e69, h⟩ := Sat_bind h
      refine r_iinc (j := 4) (v := v69) (lv' := [(5, .int v69), (0, .ref a0), (1, .int l1), (3, .int v30), (4, .int l4_69)]) dX9_waysOn_69 rfl (iinc_v e69 (by decide)) (by decide) rfl ?_
      refine r_goto 37 dX9_waysOn_72 (by decide) ?_
      exact r_sub [1, 2, 3, 4, 0] rfl (hI37 _ (Sat_some h))
    refine r_iload dX9_waysOn_37 4 rfl ?_
    refine r_bipush (v := 8) dX9_waysOn_39 (by decide) ?_
    refine r_icmp_ge 75 dX9_waysOn_41 (by decide) (fun c41 => ?_) (fun c41 => ?_)
    · have h := Sat_pos c41 h
      have h := hX37 _ (Sat_some h)
      refine r_iload dX9_waysOn_75 3 rfl ?_
      exact r_ireturn rfl (by rw [← Sat_eq h]; exact ⟨rfl, rfl⟩) dX9_waysOn_77
    · have h := Sat_neg c41 h
      refine r_iload_n dX9_waysOn_44 2 rfl ?_
      refine r_iload dX9_waysOn_45 4 rfl ?_
      refine r_ishr dX9_waysOn_47 ?_
      refine r_iconst (v := 1) dX9_waysOn_48 (by decide) ?_
      refine r_iand dX9_waysOn_49 ?_
      refine r_if_eq 69 dX9_waysOn_50 (by decide) (fun c50 => ?_) (fun c50 => ?_)
      · have h := Sat_pos c50 h
        exact r_sub [0, 1, 2, 3, 4] rfl (J69 s37.1 s37.2 h)
      · have h := Sat_neg c50 h
        refine r_iload dX9_waysOn_53 3 rfl ?_
        refine r_aload_n dX9_waysOn_55 0 rfl ?_
        obtain ⟨x56, e56, h⟩ := Sat_bind h
        refine r_getP fk_X9_18 rfl e56 dX9_waysOn_56 ?_
        refine r_iload_n dX9_waysOn_59 1 rfl ?_
        refine r_iconst (v := 1) dX9_waysOn_60 (by decide) ?_
        refine r_iload dX9_waysOn_61 4 rfl ?_
        refine r_ishl dX9_waysOn_63 ?_
        refine r_ior dX9_waysOn_64 ?_
        obtain ⟨x65, e65, h⟩ := Sat_bind h
        refine r_iaload e65 dX9_waysOn_65 ?_
        refine r_iadd dX9_waysOn_66 ?_
        obtain ⟨v67, e67, h⟩ := Sat_bind h
        refine r_topi (Option.some.inj e67) ?_
        refine r_istore (lv' := [(4, .int v67), (0, .ref a0), (1, .int l1), (3, .int v30), (5, .int s37.2)]) dX9_waysOn_67 (by decide) rfl ?_
        exact r_sub [1, 2, 3, 0, 4] rfl (J69 v67 s37.2 h)
  · have h := Sat_neg c10 h
    refine r_iconst (v := 1) dX9_waysOn_13 (by decide) ?_
    exact r_ireturn rfl (by rw [← Sat_eq h]; exact ⟨rfl, rfl⟩) dX9_waysOn_14
theorem dX9_prepare_0 : decode cX9_prepare 0 = .ok (.aload_n 0, 1) := by decide +kernel
theorem dX9_prepare_1 : decode cX9_prepare 1 = .ok (.iconst 0, 1) := by decide +kernel
theorem dX9_prepare_2 : decode cX9_prepare 2 = .ok (.putfield 21, 3) := by decide +kernel
theorem dX9_prepare_5 : decode cX9_prepare 5 = .ok (.iconst 1, 1) := by decide +kernel
theorem dX9_prepare_6 : decode cX9_prepare 6 = .ok (.aload_n 1, 1) := by decide +kernel
theorem dX9_prepare_7 : decode cX9_prepare 7 = .ok (.getfield 25, 3) := by decide +kernel
theorem dX9_prepare_10 : decode cX9_prepare 10 = .ok (.ishl, 1) := by decide +kernel
theorem dX9_prepare_11 : decode cX9_prepare 11 = .ok (.iconst 1, 1) := by decide +kernel
theorem dX9_prepare_12 : decode cX9_prepare 12 = .ok (.isub, 1) := by decide +kernel
theorem dX9_prepare_13 : decode cX9_prepare 13 = .ok (.aload_n 1, 1) := by decide +kernel
theorem dX9_prepare_14 : decode cX9_prepare 14 = .ok (.getfield 30, 3) := by decide +kernel
theorem dX9_prepare_17 : decode cX9_prepare 17 = .ok (.iconst (-1), 1) := by decide +kernel
theorem dX9_prepare_18 : decode cX9_prepare 18 = .ok (.ixor, 1) := by decide +kernel
theorem dX9_prepare_19 : decode cX9_prepare 19 = .ok (.iand, 1) := by decide +kernel
theorem dX9_prepare_20 : decode cX9_prepare 20 = .ok (.istore_n 2, 1) := by decide +kernel
theorem dX9_prepare_21 : decode cX9_prepare 21 = .ok (.iconst 0, 1) := by decide +kernel
theorem dX9_prepare_22 : decode cX9_prepare 22 = .ok (.istore_n 3, 1) := by decide +kernel
theorem dX9_prepare_23 : decode cX9_prepare 23 = .ok (.iload_n 3, 1) := by decide +kernel
theorem dX9_prepare_24 : decode cX9_prepare 24 = .ok (.aload_n 1, 1) := by decide +kernel
theorem dX9_prepare_25 : decode cX9_prepare 25 = .ok (.getfield 25, 3) := by decide +kernel
theorem dX9_prepare_28 : decode cX9_prepare 28 = .ok (.if_icmp .ge 77, 3) := by decide +kernel
theorem dX9_prepare_31 : decode cX9_prepare 31 = .ok (.aload_n 1, 1) := by decide +kernel
theorem dX9_prepare_32 : decode cX9_prepare 32 = .ok (.iload_n 3, 1) := by decide +kernel
theorem dX9_prepare_33 : decode cX9_prepare 33 = .ok (.invokevirtual 33, 3) := by decide +kernel
theorem dX9_prepare_36 : decode cX9_prepare 36 = .ok (.ifCond .ne 63, 3) := by decide +kernel
theorem dX9_prepare_39 : decode cX9_prepare 39 = .ok (.aload_n 0, 1) := by decide +kernel
theorem dX9_prepare_40 : decode cX9_prepare 40 = .ok (.getfield 9, 3) := by decide +kernel
theorem dX9_prepare_43 : decode cX9_prepare 43 = .ok (.aload_n 0, 1) := by decide +kernel
theorem dX9_prepare_44 : decode cX9_prepare 44 = .ok (.getfield 21, 3) := by decide +kernel
theorem dX9_prepare_47 : decode cX9_prepare 47 = .ok (.iload_n 3, 1) := by decide +kernel
theorem dX9_prepare_48 : decode cX9_prepare 48 = .ok (.iastore, 1) := by decide +kernel
theorem dX9_prepare_49 : decode cX9_prepare 49 = .ok (.aload_n 0, 1) := by decide +kernel
theorem dX9_prepare_50 : decode cX9_prepare 50 = .ok (.dup, 1) := by decide +kernel
theorem dX9_prepare_51 : decode cX9_prepare 51 = .ok (.getfield 21, 3) := by decide +kernel
theorem dX9_prepare_54 : decode cX9_prepare 54 = .ok (.iconst 1, 1) := by decide +kernel
theorem dX9_prepare_55 : decode cX9_prepare 55 = .ok (.iadd, 1) := by decide +kernel
theorem dX9_prepare_56 : decode cX9_prepare 56 = .ok (.putfield 21, 3) := by decide +kernel
theorem dX9_prepare_59 : decode cX9_prepare 59 = .ok (.aload_n 1, 1) := by decide +kernel
theorem dX9_prepare_60 : decode cX9_prepare 60 = .ok (.iload_n 3, 1) := by decide +kernel
theorem dX9_prepare_61 : decode cX9_prepare 61 = .ok (.invokevirtual 37, 3) := by decide +kernel
theorem dX9_prepare_64 : decode cX9_prepare 64 = .ok (.istore 4, 2) := by decide +kernel
theorem dX9_prepare_66 : decode cX9_prepare 66 = .ok (.aload_n 0, 1) := by decide +kernel
theorem dX9_prepare_67 : decode cX9_prepare 67 = .ok (.getfield 15, 3) := by decide +kernel
theorem dX9_prepare_70 : decode cX9_prepare 70 = .ok (.iload_n 3, 1) := by decide +kernel
theorem dX9_prepare_71 : decode cX9_prepare 71 = .ok (.iload 4, 2) := by decide +kernel
theorem dX9_prepare_73 : decode cX9_prepare 73 = .ok (.iconst (-1), 1) := by decide +kernel
theorem dX9_prepare_74 : decode cX9_prepare 74 = .ok (.if_icmp .eq 10, 3) := by decide +kernel
theorem dX9_prepare_77 : decode cX9_prepare 77 = .ok (.iconst 1, 1) := by decide +kernel
theorem dX9_prepare_78 : decode cX9_prepare 78 = .ok (.iload 4, 2) := by decide +kernel
theorem dX9_prepare_80 : decode cX9_prepare 80 = .ok (.ishl, 1) := by decide +kernel
theorem dX9_prepare_81 : decode cX9_prepare 81 = .ok (.goto 17, 3) := by decide +kernel
theorem dX9_prepare_84 : decode cX9_prepare 84 = .ok (.iload_n 2, 1) := by decide +kernel
theorem dX9_prepare_85 : decode cX9_prepare 85 = .ok (.aload_n 1, 1) := by decide +kernel
theorem dX9_prepare_86 : decode cX9_prepare 86 = .ok (.getfield 41, 3) := by decide +kernel
theorem dX9_prepare_89 : decode cX9_prepare 89 = .ok (.iconst (-1), 1) := by decide +kernel
theorem dX9_prepare_90 : decode cX9_prepare 90 = .ok (.ixor, 1) := by decide +kernel
theorem dX9_prepare_91 : decode cX9_prepare 91 = .ok (.iand, 1) := by decide +kernel
theorem dX9_prepare_92 : decode cX9_prepare 92 = .ok (.iconst 1, 1) := by decide +kernel
theorem dX9_prepare_93 : decode cX9_prepare 93 = .ok (.iload_n 3, 1) := by decide +kernel
theorem dX9_prepare_94 : decode cX9_prepare 94 = .ok (.ishl, 1) := by decide +kernel
theorem dX9_prepare_95 : decode cX9_prepare 95 = .ok (.iconst (-1), 1) := by decide +kernel
theorem dX9_prepare_96 : decode cX9_prepare 96 = .ok (.ixor, 1) := by decide +kernel
theorem dX9_prepare_97 : decode cX9_prepare 97 = .ok (.iand, 1) := by decide +kernel
theorem dX9_prepare_98 : decode cX9_prepare 98 = .ok (.iastore, 1) := by decide +kernel
theorem dX9_prepare_99 : decode cX9_prepare 99 = .ok (.iinc 3 1, 3) := by decide +kernel
theorem dX9_prepare_102 : decode cX9_prepare 102 = .ok (.goto (-79), 3) := by decide +kernel
theorem dX9_prepare_105 : decode cX9_prepare 105 = .ok (.aload_n 0, 1) := by decide +kernel
theorem dX9_prepare_106 : decode cX9_prepare 106 = .ok (.getfield 18, 3) := by decide +kernel
theorem dX9_prepare_109 : decode cX9_prepare 109 = .ok (.arraylength, 1) := by decide +kernel
theorem dX9_prepare_110 : decode cX9_prepare 110 = .ok (.iconst 1, 1) := by decide +kernel
theorem dX9_prepare_111 : decode cX9_prepare 111 = .ok (.isub, 1) := by decide +kernel
theorem dX9_prepare_112 : decode cX9_prepare 112 = .ok (.istore_n 3, 1) := by decide +kernel
theorem dX9_prepare_113 : decode cX9_prepare 113 = .ok (.iload_n 3, 1) := by decide +kernel
theorem dX9_prepare_114 : decode cX9_prepare 114 = .ok (.ifCond .lt 32, 3) := by decide +kernel
theorem dX9_prepare_117 : decode cX9_prepare 117 = .ok (.aload_n 0, 1) := by decide +kernel
theorem dX9_prepare_118 : decode cX9_prepare 118 = .ok (.getfield 18, 3) := by decide +kernel
theorem dX9_prepare_121 : decode cX9_prepare 121 = .ok (.iload_n 3, 1) := by decide +kernel
theorem dX9_prepare_122 : decode cX9_prepare 122 = .ok (.iload_n 3, 1) := by decide +kernel
theorem dX9_prepare_123 : decode cX9_prepare 123 = .ok (.iload_n 2, 1) := by decide +kernel
theorem dX9_prepare_124 : decode cX9_prepare 124 = .ok (.iconst (-1), 1) := by decide +kernel
theorem dX9_prepare_125 : decode cX9_prepare 125 = .ok (.ixor, 1) := by decide +kernel
theorem dX9_prepare_126 : decode cX9_prepare 126 = .ok (.iand, 1) := by decide +kernel
theorem dX9_prepare_127 : decode cX9_prepare 127 = .ok (.ifCond .eq 7, 3) := by decide +kernel
theorem dX9_prepare_130 : decode cX9_prepare 130 = .ok (.iconst 0, 1) := by decide +kernel
theorem dX9_prepare_131 : decode cX9_prepare 131 = .ok (.goto 8, 3) := by decide +kernel
theorem dX9_prepare_134 : decode cX9_prepare 134 = .ok (.aload_n 0, 1) := by decide +kernel
theorem dX9_prepare_135 : decode cX9_prepare 135 = .ok (.iload_n 3, 1) := by decide +kernel
theorem dX9_prepare_136 : decode cX9_prepare 136 = .ok (.invokevirtual 44, 3) := by decide +kernel
theorem dX9_prepare_139 : decode cX9_prepare 139 = .ok (.iastore, 1) := by decide +kernel
theorem dX9_prepare_140 : decode cX9_prepare 140 = .ok (.iinc 3 (-1), 3) := by decide +kernel
theorem dX9_prepare_143 : decode cX9_prepare 143 = .ok (.goto (-30), 3) := by decide +kernel
theorem dX9_prepare_146 : decode cX9_prepare 146 = .ok (.return_, 1) := by decide +kernel
noncomputable def f_X9_prepare_J139 (a0 : Nat) (l2 : Int32) (l3 : Int32) (k0 : Nat) (k1 : Int32) (k2 : Int32) (μ : Mm) : Option ((Int32 × Mm) ⊕ (Mm)) :=
  (pa_I k0 k1 k2 μ).bind fun μ139 => (some (l3 + (-1 : Int32))).bind fun v140 => some (.inl (v140, μ139))
noncomputable def f_X9_prepare_L113 (a0 : Nat) (l2 : Int32) (s113 : Int32 × Mm) : Option ((Int32 × Mm) ⊕ (Mm)) :=
  if s113.1 < 0 then some (.inr s113.2) else (gf_P 10 2 a0 s113.2).bind fun x118 => if (s113.1 &&& (l2 ^^^ (-1 : Int32))) = 0 then (f_X9_waysOn a0 s113.1 s113.2).bind fun x136 => f_X9_prepare_J139 a0 l2 s113.1 x118 s113.1 x136 s113.2 else f_X9_prepare_J139 a0 l2 s113.1 x118 s113.1 (0 : Int32) s113.2
noncomputable def f_X9_prepare_J105 (a0 : Nat) (l2 : Int32) (μ : Mm) : Option Mm :=
  (gf_P 10 2 a0 μ).bind fun x106 => (ga_len x106 μ).bind fun x109 => (some (x109 - (1 : Int32))).bind fun v112 => (whl (f_X9_prepare_L113 a0 l2) (v112, μ)).bind (fun b113 => some b113)
noncomputable def f_X9_prepare_J99 (a0 : Nat) (l1 : Nat) (l2 : Int32) (l3 : Int32) (μ : Mm) : Option ((Int32 × Mm) ⊕ (Mm)) :=
  (some (l3 + (1 : Int32))).bind fun v99 => some (.inl (v99, μ))
noncomputable def f_X9_prepare_J98 (a0 : Nat) (l1 : Nat) (l2 : Int32) (l3 : Int32) (k0 : Nat) (k1 : Int32) (k2 : Int32) (μ : Mm) : Option ((Int32 × Mm) ⊕ (Mm)) :=
  (pa_I k0 k1 k2 μ).bind fun μ98 => f_X9_prepare_J99 a0 l1 l2 l3 μ98
noncomputable def f_X9_prepare_L23 (a0 : Nat) (l1 : Nat) (l2 : Int32) (s23 : Int32 × Mm) : Option ((Int32 × Mm) ⊕ (Mm)) :=
  (gf_I 8 9 l1 s23.2).bind fun x25 => if x25 ≤ s23.1 then some (.inr s23.2) else (f_X7_isAlone l1 s23.1 s23.2).bind fun x33 => if x33 = 0 then (gf_P 10 0 a0 s23.2).bind fun x40 => (gf_I 10 3 a0 s23.2).bind fun x44 => (pa_I x40 x44 s23.1 s23.2).bind fun μ48 => (gf_I 10 3 a0 μ48).bind fun x51 => (pf_I 10 3 a0 (x51 + (1 : Int32)) μ48).bind fun μ56 => (f_X7_toldDreamOf l1 s23.1 μ56).bind fun x61 => (gf_P 10 1 a0 μ56).bind fun x67 => if x61 = (-1 : Int32) then (gf_I 8 11 l1 μ56).bind fun x86 => f_X9_prepare_J98 a0 l1 l2 s23.1 x67 s23.1 ((l2 &&& (x86 ^^^ (-1 : Int32))) &&& (((1 : Int32) <<< (s23.1 &&& 31)) ^^^ (-1 : Int32))) μ56 else f_X9_prepare_J98 a0 l1 l2 s23.1 x67 s23.1 ((1 : Int32) <<< (x61 &&& 31)) μ56 else f_X9_prepare_J99 a0 l1 l2 s23.1 s23.2
noncomputable def f_X9_prepare (a0 : Nat) (l1 : Nat) (μ : Mm) : Option Mm :=
  if (mm_K μ a0).1 = 10 then (pf_I 10 3 a0 (0 : Int32) μ).bind fun μ2 => (gf_I 8 9 l1 μ2).bind fun x7 => (gf_I 8 10 l1 μ2).bind fun x14 => (some ((((1 : Int32) <<< (x7 &&& 31)) - (1 : Int32)) &&& (x14 ^^^ (-1 : Int32)))).bind fun v20 => (whl (f_X9_prepare_L23 a0 l1 v20) ((0 : Int32), μ2)).bind (fun b23 => f_X9_prepare_J105 a0 v20 b23) else none
abbrev Rn_X9_prepare (G : Gv) (Q : Option Value → Mm → Prop) (pc : Nat) (lv : List (Nat × Value)) (st : List Value) (μ : Mm) : Prop := Rn G RX9 cX9_prepare 5 none "prepare" (rmd 2 0 0) (Zm G 0 0 Q) 0 0 pc lv st μ
set_option maxRecDepth 100000 in
set_option maxHeartbeats 4000000 in
theorem m_X9_prepare {G : Gv} (a0 : Nat) (l1 : Nat) (μ : Mm) {r : Mm} (hx : f_X9_prepare a0 l1 μ = some r) : Mt G yX9_prepare cX9_prepare 5 none 2 0 0 [.ref a0, .ref l1] μ (fun v μ' => v = none ∧ μ' = r) := by
  refine Mt.of (by decide) (Nat.le_of_ble_eq_true rfl) ?_
  show Rn_X9_prepare G (fun v μ' => v = none ∧ μ' = r) 0 [(0, .ref a0), (1, .ref l1)] [] μ
  obtain ⟨_, h⟩ := Sat_ifp (show Sat (f_X9_prepare a0 l1 μ) (fun x => x = r) from ⟨_, hx, rfl⟩)
  have J105 : ∀ (a0_105 : Nat) (l2_105 : Int32) (μ_105 : Mm), Sat (f_X9_prepare_J105 a0_105 l2_105 μ_105) (fun x => x = r) → Rn_X9_prepare G (fun v μ' => v = none ∧ μ' = r) 105 [(0, .ref a0_105), (2, .int l2_105)] [] μ_105 := by
    intro a0_105 l2_105 μ_105 h
    refine r_aload_n dX9_prepare_105 0 rfl ?_
    obtain ⟨x106, e106, h⟩ := Sat_bind h
    refine r_getP fk_X9_18 rfl e106 dX9_prepare_106 ?_
    obtain ⟨x109, e109, h⟩ := Sat_bind h
    refine r_len e109 dX9_prepare_109 ?_
    refine r_iconst (v := 1) dX9_prepare_110 (by decide) ?_
    refine r_isub dX9_prepare_111 ?_
    obtain ⟨v112, e112, h⟩ := Sat_bind h
    refine r_topi (Option.some.inj e112) ?_
    refine r_istore_n (lv' := [(3, .int v112), (0, .ref a0_105), (2, .int l2_105)]) dX9_prepare_112 rfl (by decide) rfl ?_
    refine r_sub (lv' := [(0, .ref a0_105), (2, .int l2_105), (3, .int v112)]) [1, 2, 0] rfl ?_
    refine whl_K (s0 := ((v112, μ_105) : Int32 × Mm)) (RR := fun (s113 : Int32 × Mm) => Rn_X9_prepare G (fun v μ' => v = none ∧ μ' = r) 113 [(0, .ref a0_105), (2, .int l2_105), (3, .int s113.1)] [] s113.2) ?_ (Sat_bindK h)
    intro s113 K113 hI113 hX113 h
    have J139 : ∀ (l3_139 : Int32) (k0_139 : Nat) (k1_139 : Int32) (k2_139 : Int32) (μ_139 : Mm), Sat (f_X9_prepare_J139 a0_105 l2_105 l3_139 k0_139 k1_139 k2_139 μ_139) K113 → Rn_X9_prepare G (fun v μ' => v = none ∧ μ' = r) 139 [(0, .ref a0_105), (2, .int l2_105), (3, .int l3_139)] [.int k2_139, .int k1_139, .ref k0_139] μ_139 := by
      intro l3_139 k0_139 k1_139 k2_139 μ_139 h
      obtain ⟨μ139, e139, h⟩ := Sat_bind h
      refine r_iastore e139 dX9_prepare_139 ?_
      obtain ⟨v140, e140, h⟩ := Sat_bind h
      refine r_iinc (j := 2) (v := v140) (lv' := [(3, .int v140), (0, .ref a0_105), (2, .int l2_105)]) dX9_prepare_140 rfl (iinc_v e140 (by decide)) (by decide) rfl ?_
      refine r_goto 113 dX9_prepare_143 (by decide) ?_
      exact r_sub [1, 2, 0] rfl (hI113 _ (Sat_some h))
    refine r_iload_n dX9_prepare_113 2 rfl ?_
    refine r_if_lt 146 dX9_prepare_114 (by decide) (fun c114 => ?_) (fun c114 => ?_)
    · have h := Sat_pos c114 h
      have h := hX113 _ (Sat_some h)
      exact r_vreturn rfl (by rw [← Sat_eq h]; exact ⟨rfl, rfl⟩) dX9_prepare_146
    · have h := Sat_neg c114 h
      refine r_aload_n dX9_prepare_117 0 rfl ?_
      obtain ⟨x118, e118, h⟩ := Sat_bind h
      refine r_getP fk_X9_18 rfl e118 dX9_prepare_118 ?_
      refine r_iload_n dX9_prepare_121 2 rfl ?_
      refine r_iload_n dX9_prepare_122 2 rfl ?_
      refine r_iload_n dX9_prepare_123 1 rfl ?_
      refine r_iconst (v := -1) dX9_prepare_124 (by decide) ?_
      refine r_ixor dX9_prepare_125 ?_
      refine r_iand dX9_prepare_126 ?_
      refine r_if_eq 134 dX9_prepare_127 (by decide) (fun c127 => ?_) (fun c127 => ?_)
      · have h := Sat_pos c127 h
        refine r_aload_n dX9_prepare_134 0 rfl ?_
        refine r_iload_n dX9_prepare_135 2 rfl ?_
        obtain ⟨x136, e136, h⟩ := Sat_bind h
        refine r_cV (t := 10) [.int s113.1] [.int s113.1, .ref x118] (m_X9_waysOn a0_105 s113.1 s113.2 e136) ck_X9_waysOn lk_X9_44 in_X9_waysOn se_X9_waysOn (kd_of e136) ⟨rfl, by decide, by decide⟩ rfl rfl (Nat.le_of_ble_eq_true rfl) ⟨by decide, by decide⟩ ⟨Nat.zero_le _, Nat.zero_le _⟩ dX9_prepare_136 ?_
        exact r_sub [0, 1, 2] rfl (J139 s113.1 x118 s113.1 x136 s113.2 h)
      · have h := Sat_neg c127 h
        refine r_iconst (v := 0) dX9_prepare_130 (by decide) ?_
        refine r_goto 139 dX9_prepare_131 (by decide) ?_
        exact r_sub [0, 1, 2] rfl (J139 s113.1 x118 s113.1 (0 : Int32) s113.2 h)
  refine r_aload_n dX9_prepare_0 0 rfl ?_
  refine r_iconst (v := 0) dX9_prepare_1 (by decide) ?_
  obtain ⟨μ2, e2, h⟩ := Sat_bind h
  refine r_putI fk_X9_21 rfl rfl e2 dX9_prepare_2 ?_
  refine r_iconst (v := 1) dX9_prepare_5 (by decide) ?_
  refine r_aload_n dX9_prepare_6 1 rfl ?_
  obtain ⟨x7, e7, h⟩ := Sat_bind h
  refine r_getI fk_X9_25 rfl e7 dX9_prepare_7 ?_
  refine r_ishl dX9_prepare_10 ?_
  refine r_iconst (v := 1) dX9_prepare_11 (by decide) ?_
  refine r_isub dX9_prepare_12 ?_
  refine r_aload_n dX9_prepare_13 1 rfl ?_
  obtain ⟨x14, e14, h⟩ := Sat_bind h
  refine r_getI fk_X9_30 rfl e14 dX9_prepare_14 ?_
  refine r_iconst (v := -1) dX9_prepare_17 (by decide) ?_
  refine r_ixor dX9_prepare_18 ?_
  refine r_iand dX9_prepare_19 ?_
  obtain ⟨v20, e20, h⟩ := Sat_bind h
  refine r_topi (Option.some.inj e20) ?_
  refine r_istore_n (lv' := [(2, .int v20), (0, .ref a0), (1, .ref l1)]) dX9_prepare_20 rfl (by decide) rfl ?_
  refine r_iconst (v := 0) dX9_prepare_21 (by decide) ?_
  refine r_istore_n (lv' := [(3, .int (0 : Int32)), (2, .int v20), (0, .ref a0), (1, .ref l1)]) dX9_prepare_22 rfl (by decide) rfl ?_
  refine r_sub (lv' := [(0, .ref a0), (1, .ref l1), (2, .int v20), (3, .int (0 : Int32))]) [2, 3, 1, 0] rfl ?_
  refine whl_K (s0 := (((0 : Int32), μ2) : Int32 × Mm)) (RR := fun (s23 : Int32 × Mm) => Rn_X9_prepare G (fun v μ' => v = none ∧ μ' = r) 23 [(0, .ref a0), (1, .ref l1), (2, .int v20), (3, .int s23.1)] [] s23.2) ?_ (Sat_bindK h)
  intro s23 K23 hI23 hX23 h
  have J99 : ∀ (l3_99 : Int32) (μ_99 : Mm), Sat (f_X9_prepare_J99 a0 l1 v20 l3_99 μ_99) K23 → Rn_X9_prepare G (fun v μ' => v = none ∧ μ' = r) 99 [(0, .ref a0), (1, .ref l1), (2, .int v20), (3, .int l3_99)] [] μ_99 := by
    intro l3_99 μ_99 h
    obtain ⟨v99, e99, h⟩ := Sat_bind h
    refine r_iinc (j := 3) (v := v99) (lv' := [(3, .int v99), (0, .ref a0), (1, .ref l1), (2, .int v20)]) dX9_prepare_99 rfl (iinc_v e99 (by decide)) (by decide) rfl ?_
    refine r_goto 23 dX9_prepare_102 (by decide) ?_
    exact r_sub [1, 2, 3, 0] rfl (hI23 _ (Sat_some h))
  have J98 : ∀ (l3_98 : Int32) (k0_98 : Nat) (k1_98 : Int32) (k2_98 : Int32) (μ_98 : Mm), Sat (f_X9_prepare_J98 a0 l1 v20 l3_98 k0_98 k1_98 k2_98 μ_98) K23 → Rn_X9_prepare G (fun v μ' => v = none ∧ μ' = r) 98 [(0, .ref a0), (1, .ref l1), (2, .int v20), (3, .int l3_98)] [.int k2_98, .int k1_98, .ref k0_98] μ_98 := by
    intro l3_98 k0_98 k1_98 k2_98 μ_98 h
    obtain ⟨μ98, e98, h⟩ := Sat_bind h
    refine r_iastore e98 dX9_prepare_98 ?_
    exact r_sub [0, 1, 2, 3] rfl (J99 l3_98 μ98 h)
  refine r_iload_n dX9_prepare_23 3 rfl ?_
  refine r_aload_n dX9_prepare_24 1 rfl ?_
  obtain ⟨x25, e25, h⟩ := Sat_bind h
  refine r_getI fk_X9_25 rfl e25 dX9_prepare_25 ?_
  refine r_icmp_ge 105 dX9_prepare_28 (by decide) (fun c28 => ?_) (fun c28 => ?_)
  · have h := Sat_pos c28 h
    have h := hX23 _ (Sat_some h)
    exact r_sub [0, 2] rfl (J105 a0 v20 s23.2 h)
  · have h := Sat_neg c28 h
    refine r_aload_n dX9_prepare_31 1 rfl ?_
    refine r_iload_n dX9_prepare_32 3 rfl ?_
    obtain ⟨x33, e33, h⟩ := Sat_bind h
    refine r_cV (t := 8) [.int s23.1] [] (m_X7_isAlone l1 s23.1 s23.2 e33) ck_X7_isAlone lk_X9_33 in_X7_isAlone se_X7_isAlone (kd_of e33) ⟨rfl, by decide, by decide⟩ rfl rfl (Nat.le_of_ble_eq_true rfl) ⟨by decide, by decide⟩ ⟨Nat.zero_le _, Nat.zero_le _⟩ dX9_prepare_33 ?_
    refine r_if_ne 99 dX9_prepare_36 (by decide) (fun c36 => ?_) (fun c36 => ?_)
    · have h := Sat_neg c36 h
      exact r_sub [0, 1, 2, 3] rfl (J99 s23.1 s23.2 h)
    · have h := Sat_pos c36 h
      refine r_aload_n dX9_prepare_39 0 rfl ?_
      obtain ⟨x40, e40, h⟩ := Sat_bind h
      refine r_getP fk_X9_9 rfl e40 dX9_prepare_40 ?_
      refine r_aload_n dX9_prepare_43 0 rfl ?_
      obtain ⟨x44, e44, h⟩ := Sat_bind h
      refine r_getI fk_X9_21 rfl e44 dX9_prepare_44 ?_
      refine r_iload_n dX9_prepare_47 3 rfl ?_
      obtain ⟨μ48, e48, h⟩ := Sat_bind h
      refine r_iastore e48 dX9_prepare_48 ?_
      refine r_aload_n dX9_prepare_49 0 rfl ?_
      refine r_dup dX9_prepare_50 rfl ?_
      obtain ⟨x51, e51, h⟩ := Sat_bind h
      refine r_getI fk_X9_21 rfl e51 dX9_prepare_51 ?_
      refine r_iconst (v := 1) dX9_prepare_54 (by decide) ?_
      refine r_iadd dX9_prepare_55 ?_
      obtain ⟨μ56, e56, h⟩ := Sat_bind h
      refine r_putI fk_X9_21 rfl rfl e56 dX9_prepare_56 ?_
      refine r_aload_n dX9_prepare_59 1 rfl ?_
      refine r_iload_n dX9_prepare_60 3 rfl ?_
      obtain ⟨x61, e61, h⟩ := Sat_bind h
      refine r_cV (t := 8) [.int s23.1] [] (m_X7_toldDreamOf l1 s23.1 μ56 e61) ck_X7_toldDreamOf lk_X9_37 in_X7_toldDreamOf se_X7_toldDreamOf (kd_of e61) ⟨rfl, by decide, by decide⟩ rfl rfl (Nat.le_of_ble_eq_true rfl) ⟨by decide, by decide⟩ ⟨Nat.zero_le _, Nat.zero_le _⟩ dX9_prepare_61 ?_
      refine r_istore (lv' := [(4, .int x61), (0, .ref a0), (1, .ref l1), (2, .int v20), (3, .int s23.1)]) dX9_prepare_64 (by decide) rfl ?_
      refine r_aload_n dX9_prepare_66 1 rfl ?_
      obtain ⟨x67, e67, h⟩ := Sat_bind h
      refine r_getP fk_X9_15 rfl e67 dX9_prepare_67 ?_
      refine r_iload_n dX9_prepare_70 4 rfl ?_
      refine r_iload dX9_prepare_71 0 rfl ?_
      refine r_iconst (v := -1) dX9_prepare_73 (by decide) ?_
      refine r_icmp_eq 84 dX9_prepare_74 (by decide) (fun c74 => ?_) (fun c74 => ?_)
      · have h := Sat_pos c74 h
        refine r_iload_n dX9_prepare_84 3 rfl ?_
        refine r_aload_n dX9_prepare_85 2 rfl ?_
        obtain ⟨x86, e86, h⟩ := Sat_bind h
        refine r_getI fk_X9_41 rfl e86 dX9_prepare_86 ?_
        refine r_iconst (v := -1) dX9_prepare_89 (by decide) ?_
        refine r_ixor dX9_prepare_90 ?_
        refine r_iand dX9_prepare_91 ?_
        refine r_iconst (v := 1) dX9_prepare_92 (by decide) ?_
        refine r_iload_n dX9_prepare_93 4 rfl ?_
        refine r_ishl dX9_prepare_94 ?_
        refine r_iconst (v := -1) dX9_prepare_95 (by decide) ?_
        refine r_ixor dX9_prepare_96 ?_
        refine r_iand dX9_prepare_97 ?_
        exact r_sub [1, 2, 3, 4] rfl (J98 s23.1 x67 s23.1 ((v20 &&& (x86 ^^^ (-1 : Int32))) &&& (((1 : Int32) <<< (s23.1 &&& 31)) ^^^ (-1 : Int32))) μ56 h)
      · have h := Sat_neg c74 h
        refine r_iconst (v := 1) dX9_prepare_77 (by decide) ?_
        refine r_iload dX9_prepare_78 0 rfl ?_
        refine r_ishl dX9_prepare_80 ?_
        refine r_goto 98 dX9_prepare_81 (by decide) ?_
        exact r_sub [1, 2, 3, 4] rfl (J98 s23.1 x67 s23.1 ((1 : Int32) <<< (x61 &&& 31)) μ56 h)
theorem dX4_aheadOfNight_0 : decode cX4_aheadOfNight 0 = .ok (.iconst 0, 1) := by decide +kernel
theorem dX4_aheadOfNight_1 : decode cX4_aheadOfNight 1 = .ok (.istore_n 2, 1) := by decide +kernel
theorem dX4_aheadOfNight_2 : decode cX4_aheadOfNight 2 = .ok (.aload_n 0, 1) := by decide +kernel
theorem dX4_aheadOfNight_3 : decode cX4_aheadOfNight 3 = .ok (.getfield 89, 3) := by decide +kernel
theorem dX4_aheadOfNight_6 : decode cX4_aheadOfNight 6 = .ok (.istore_n 3, 1) := by decide +kernel
theorem dX4_aheadOfNight_7 : decode cX4_aheadOfNight 7 = .ok (.iload_n 3, 1) := by decide +kernel
theorem dX4_aheadOfNight_8 : decode cX4_aheadOfNight 8 = .ok (.iload_n 1, 1) := by decide +kernel
theorem dX4_aheadOfNight_9 : decode cX4_aheadOfNight 9 = .ok (.if_icmp .ge 27, 3) := by decide +kernel
theorem dX4_aheadOfNight_12 : decode cX4_aheadOfNight 12 = .ok (.iload_n 3, 1) := by decide +kernel
theorem dX4_aheadOfNight_13 : decode cX4_aheadOfNight 13 = .ok (.bipush 28, 2) := by decide +kernel
theorem dX4_aheadOfNight_15 : decode cX4_aheadOfNight 15 = .ok (.if_icmp .ge 21, 3) := by decide +kernel
theorem dX4_aheadOfNight_18 : decode cX4_aheadOfNight 18 = .ok (.aload_n 0, 1) := by decide +kernel
theorem dX4_aheadOfNight_19 : decode cX4_aheadOfNight 19 = .ok (.aload_n 0, 1) := by decide +kernel
theorem dX4_aheadOfNight_20 : decode cX4_aheadOfNight 20 = .ok (.iload_n 2, 1) := by decide +kernel
theorem dX4_aheadOfNight_21 : decode cX4_aheadOfNight 21 = .ok (.iload_n 3, 1) := by decide +kernel
theorem dX4_aheadOfNight_22 : decode cX4_aheadOfNight 22 = .ok (.invokevirtual 118, 3) := by decide +kernel
theorem dX4_aheadOfNight_25 : decode cX4_aheadOfNight 25 = .ok (.iload_n 3, 1) := by decide +kernel
theorem dX4_aheadOfNight_26 : decode cX4_aheadOfNight 26 = .ok (.invokevirtual 121, 3) := by decide +kernel
theorem dX4_aheadOfNight_29 : decode cX4_aheadOfNight 29 = .ok (.istore_n 2, 1) := by decide +kernel
theorem dX4_aheadOfNight_30 : decode cX4_aheadOfNight 30 = .ok (.iinc 3 1, 3) := by decide +kernel
theorem dX4_aheadOfNight_33 : decode cX4_aheadOfNight 33 = .ok (.goto (-26), 3) := by decide +kernel
theorem dX4_aheadOfNight_36 : decode cX4_aheadOfNight 36 = .ok (.iload_n 1, 1) := by decide +kernel
theorem dX4_aheadOfNight_37 : decode cX4_aheadOfNight 37 = .ok (.aload_n 0, 1) := by decide +kernel
theorem dX4_aheadOfNight_38 : decode cX4_aheadOfNight 38 = .ok (.getfield 89, 3) := by decide +kernel
theorem dX4_aheadOfNight_41 : decode cX4_aheadOfNight 41 = .ok (.if_icmp .ge 7, 3) := by decide +kernel
theorem dX4_aheadOfNight_44 : decode cX4_aheadOfNight 44 = .ok (.iconst 0, 1) := by decide +kernel
theorem dX4_aheadOfNight_45 : decode cX4_aheadOfNight 45 = .ok (.goto 9, 3) := by decide +kernel
theorem dX4_aheadOfNight_48 : decode cX4_aheadOfNight 48 = .ok (.aload_n 0, 1) := by decide +kernel
theorem dX4_aheadOfNight_49 : decode cX4_aheadOfNight 49 = .ok (.iload_n 2, 1) := by decide +kernel
theorem dX4_aheadOfNight_50 : decode cX4_aheadOfNight 50 = .ok (.iload_n 1, 1) := by decide +kernel
theorem dX4_aheadOfNight_51 : decode cX4_aheadOfNight 51 = .ok (.invokevirtual 118, 3) := by decide +kernel
theorem dX4_aheadOfNight_54 : decode cX4_aheadOfNight 54 = .ok (.ireturn, 1) := by decide +kernel
noncomputable def f_X4_aheadOfNight_J36 (a0 : Nat) (l1 : Int32) (l2 : Int32) (μ : Mm) : Option Int32 :=
  (gf_I 5 8 a0 μ).bind fun x38 => if x38 ≤ l1 then (f_X4_byDay a0 l2 l1 μ).bind fun x51 => some x51 else some (0 : Int32)
noncomputable def f_X4_aheadOfNight_L7 (a0 : Nat) (l1 : Int32) (μ : Mm) (s7 : Int32 × Int32) : Option ((Int32 × Int32) ⊕ (Int32)) :=
  if l1 ≤ s7.2 then some (.inr s7.1) else if (28 : Int32) ≤ s7.2 then some (.inr s7.1) else (f_X4_byDay a0 s7.1 s7.2 μ).bind fun x22 => (f_X4_byNight a0 x22 s7.2 μ).bind fun x26 => (some (s7.2 + (1 : Int32))).bind fun v30 => some (.inl (x26, v30))
noncomputable def f_X4_aheadOfNight (a0 : Nat) (l1 : Int32) (μ : Mm) : Option Int32 :=
  if (mm_K μ a0).1 = 5 then (gf_I 5 8 a0 μ).bind fun x3 => (whl (f_X4_aheadOfNight_L7 a0 l1 μ) ((0 : Int32), x3)).bind (fun b7 => f_X4_aheadOfNight_J36 a0 l1 b7 μ) else none
abbrev Rn_X4_aheadOfNight (G : Gv) (Q : Option Value → Mm → Prop) (pc : Nat) (lv : List (Nat × Value)) (st : List Value) (μ : Mm) : Prop := Rn G RX4 cX4_aheadOfNight 4 (some .int) "aheadOfNight" (rmd 2 0 0) (Zm G 0 0 Q) 0 0 pc lv st μ
set_option maxRecDepth 100000 in
set_option maxHeartbeats 4000000 in
theorem m_X4_aheadOfNight {G : Gv} (a0 : Nat) (l1 : Int32) (μ : Mm) {r : Int32} (hx : f_X4_aheadOfNight a0 l1 μ = some r) : Mt G yX4_aheadOfNight cX4_aheadOfNight 4 (some .int) 2 0 0 [.ref a0, .int l1] μ (fun v μ' => v = some (.int r) ∧ μ' = μ) := by
  refine Mt.of (by decide) (Nat.le_of_ble_eq_true rfl) ?_
  show Rn_X4_aheadOfNight G (fun v μ' => v = some (.int r) ∧ μ' = μ) 0 [(0, .ref a0), (1, .int l1)] [] μ
  obtain ⟨_, h⟩ := Sat_ifp (show Sat (f_X4_aheadOfNight a0 l1 μ) (fun x => x = r) from ⟨_, hx, rfl⟩)
  have J36 : ∀ (a0_36 : Nat) (l1_36 : Int32) (l2_36 : Int32), Sat (f_X4_aheadOfNight_J36 a0_36 l1_36 l2_36 μ) (fun x => x = r) → Rn_X4_aheadOfNight G (fun v μ' => v = some (.int r) ∧ μ' = μ) 36 [(0, .ref a0_36), (1, .int l1_36), (2, .int l2_36)] [] μ := by
    intro a0_36 l1_36 l2_36 h
    refine r_iload_n dX4_aheadOfNight_36 1 rfl ?_
    refine r_aload_n dX4_aheadOfNight_37 0 rfl ?_
    obtain ⟨x38, e38, h⟩ := Sat_bind h
    refine r_getI fk_X4_89 rfl e38 dX4_aheadOfNight_38 ?_
    refine r_icmp_ge 48 dX4_aheadOfNight_41 (by decide) (fun c41 => ?_) (fun c41 => ?_)
    · have h := Sat_pos c41 h
      refine r_aload_n dX4_aheadOfNight_48 0 rfl ?_
      refine r_iload_n dX4_aheadOfNight_49 2 rfl ?_
      refine r_iload_n dX4_aheadOfNight_50 1 rfl ?_
      obtain ⟨x51, e51, h⟩ := Sat_bind h
      refine r_cV (t := 5) [.int l2_36, .int l1_36] [] (m_X4_byDay a0_36 l2_36 l1_36 μ e51) ck_X4_byDay lk_X4_118 in_X4_byDay se_X4_byDay (kd_of e51) ⟨rfl, by decide, by decide⟩ rfl rfl (Nat.le_of_ble_eq_true rfl) ⟨by decide, by decide⟩ ⟨Nat.zero_le _, Nat.zero_le _⟩ dX4_aheadOfNight_51 ?_
      exact r_ireturn rfl (by rw [← Sat_eq h]; exact ⟨rfl, rfl⟩) dX4_aheadOfNight_54
    · have h := Sat_neg c41 h
      refine r_iconst (v := 0) dX4_aheadOfNight_44 (by decide) ?_
      refine r_goto 54 dX4_aheadOfNight_45 (by decide) ?_
      exact r_ireturn rfl (by rw [← Sat_eq h]; exact ⟨rfl, rfl⟩) dX4_aheadOfNight_54
  refine r_iconst (v := 0) dX4_aheadOfNight_0 (by decide) ?_
  refine r_istore_n (lv' := [(2, .int (0 : Int32)), (0, .ref a0), (1, .int l1)]) dX4_aheadOfNight_1 rfl (by decide) rfl ?_
  refine r_aload_n dX4_aheadOfNight_2 1 rfl ?_
  obtain ⟨x3, e3, h⟩ := Sat_bind h
  refine r_getI fk_X4_89 rfl e3 dX4_aheadOfNight_3 ?_
  refine r_istore_n (lv' := [(3, .int x3), (2, .int (0 : Int32)), (0, .ref a0), (1, .int l1)]) dX4_aheadOfNight_6 rfl (by decide) rfl ?_
  refine r_sub (lv' := [(0, .ref a0), (1, .int l1), (2, .int (0 : Int32)), (3, .int x3)]) [2, 3, 1, 0] rfl ?_
  refine whl_K (s0 := (((0 : Int32), x3) : Int32 × Int32)) (RR := fun (s7 : Int32 × Int32) => Rn_X4_aheadOfNight G (fun v μ' => v = some (.int r) ∧ μ' = μ) 7 [(0, .ref a0), (1, .int l1), (2, .int s7.1), (3, .int s7.2)] [] μ) ?_ (Sat_bindK h)
  intro s7 K7 hI7 hX7 h
  refine r_iload_n dX4_aheadOfNight_7 3 rfl ?_
  refine r_iload_n dX4_aheadOfNight_8 1 rfl ?_
  refine r_icmp_ge 36 dX4_aheadOfNight_9 (by decide) (fun c9 => ?_) (fun c9 => ?_)
  · have h := Sat_pos c9 h
    have h := hX7 _ (Sat_some h)
    exact r_sub [0, 1, 2] rfl (J36 a0 l1 s7.1 h)
  · have h := Sat_neg c9 h
    refine r_iload_n dX4_aheadOfNight_12 3 rfl ?_
    refine r_bipush (v := 28) dX4_aheadOfNight_13 (by decide) ?_
    refine r_icmp_ge 36 dX4_aheadOfNight_15 (by decide) (fun c15 => ?_) (fun c15 => ?_)
    · have h := Sat_pos c15 h
      have h := hX7 _ (Sat_some h)
      exact r_sub [0, 1, 2] rfl (J36 a0 l1 s7.1 h)
    · have h := Sat_neg c15 h
      refine r_aload_n dX4_aheadOfNight_18 0 rfl ?_
      refine r_aload_n dX4_aheadOfNight_19 0 rfl ?_
      refine r_iload_n dX4_aheadOfNight_20 2 rfl ?_
      refine r_iload_n dX4_aheadOfNight_21 3 rfl ?_
      obtain ⟨x22, e22, h⟩ := Sat_bind h
      refine r_cV (t := 5) [.int s7.1, .int s7.2] [.ref a0] (m_X4_byDay a0 s7.1 s7.2 μ e22) ck_X4_byDay lk_X4_118 in_X4_byDay se_X4_byDay (kd_of e22) ⟨rfl, by decide, by decide⟩ rfl rfl (Nat.le_of_ble_eq_true rfl) ⟨by decide, by decide⟩ ⟨Nat.zero_le _, Nat.zero_le _⟩ dX4_aheadOfNight_22 ?_
      refine r_iload_n dX4_aheadOfNight_25 3 rfl ?_
      obtain ⟨x26, e26, h⟩ := Sat_bind h
      refine r_cV (t := 5) [.int x22, .int s7.2] [] (m_X4_byNight a0 x22 s7.2 μ e26) ck_X4_byNight lk_X4_121 in_X4_byNight se_X4_byNight (kd_of e26) ⟨rfl, by decide, by decide⟩ rfl rfl (Nat.le_of_ble_eq_true rfl) ⟨by decide, by decide⟩ ⟨Nat.zero_le _, Nat.zero_le _⟩ dX4_aheadOfNight_26 ?_
      refine r_istore_n (lv' := [(2, .int x26), (0, .ref a0), (1, .int l1), (3, .int s7.2)]) dX4_aheadOfNight_29 rfl (by decide) rfl ?_
      obtain ⟨v30, e30, h⟩ := Sat_bind h
      refine r_iinc (j := 3) (v := v30) (lv' := [(3, .int v30), (2, .int x26), (0, .ref a0), (1, .int l1)]) dX4_aheadOfNight_30 rfl (iinc_v e30 (by decide)) (by decide) rfl ?_
      refine r_goto 7 dX4_aheadOfNight_33 (by decide) ?_
      exact r_sub [2, 3, 1, 0] rfl (hI7 _ (Sat_some h))
theorem dX10_isActRight_0 : decode cX10_isActRight 0 = .ok (.aload_n 0, 1) := by decide +kernel
theorem dX10_isActRight_1 : decode cX10_isActRight 1 = .ok (.getfield 63, 3) := by decide +kernel
theorem dX10_isActRight_4 : decode cX10_isActRight 4 = .ok (.iload_n 2, 1) := by decide +kernel
theorem dX10_isActRight_5 : decode cX10_isActRight 5 = .ok (.invokevirtual 178, 3) := by decide +kernel
theorem dX10_isActRight_8 : decode cX10_isActRight 8 = .ok (.ifCond .eq 14, 3) := by decide +kernel
theorem dX10_isActRight_11 : decode cX10_isActRight 11 = .ok (.aload_n 0, 1) := by decide +kernel
theorem dX10_isActRight_12 : decode cX10_isActRight 12 = .ok (.getfield 63, 3) := by decide +kernel
theorem dX10_isActRight_15 : decode cX10_isActRight 15 = .ok (.iload_n 3, 1) := by decide +kernel
theorem dX10_isActRight_16 : decode cX10_isActRight 16 = .ok (.invokevirtual 188, 3) := by decide +kernel
theorem dX10_isActRight_19 : decode cX10_isActRight 19 = .ok (.ifCond .ne 5, 3) := by decide +kernel
theorem dX10_isActRight_22 : decode cX10_isActRight 22 = .ok (.iconst 0, 1) := by decide +kernel
theorem dX10_isActRight_23 : decode cX10_isActRight 23 = .ok (.ireturn, 1) := by decide +kernel
theorem dX10_isActRight_24 : decode cX10_isActRight 24 = .ok (.aload_n 0, 1) := by decide +kernel
theorem dX10_isActRight_25 : decode cX10_isActRight 25 = .ok (.getfield 84, 3) := by decide +kernel
theorem dX10_isActRight_28 : decode cX10_isActRight 28 = .ok (.iload_n 3, 1) := by decide +kernel
theorem dX10_isActRight_29 : decode cX10_isActRight 29 = .ok (.bipush 7, 2) := by decide +kernel
theorem dX10_isActRight_31 : decode cX10_isActRight 31 = .ok (.iconst 0, 1) := by decide +kernel
theorem dX10_isActRight_32 : decode cX10_isActRight 32 = .ok (.invokevirtual 223, 3) := by decide +kernel
theorem dX10_isActRight_35 : decode cX10_isActRight 35 = .ok (.aload_n 0, 1) := by decide +kernel
theorem dX10_isActRight_36 : decode cX10_isActRight 36 = .ok (.getfield 84, 3) := by decide +kernel
theorem dX10_isActRight_39 : decode cX10_isActRight 39 = .ok (.iload_n 1, 1) := by decide +kernel
theorem dX10_isActRight_40 : decode cX10_isActRight 40 = .ok (.invokevirtual 267, 3) := by decide +kernel
theorem dX10_isActRight_43 : decode cX10_isActRight 43 = .ok (.iload_n 2, 1) := by decide +kernel
theorem dX10_isActRight_44 : decode cX10_isActRight 44 = .ok (.ishr, 1) := by decide +kernel
theorem dX10_isActRight_45 : decode cX10_isActRight 45 = .ok (.iconst 1, 1) := by decide +kernel
theorem dX10_isActRight_46 : decode cX10_isActRight 46 = .ok (.iand, 1) := by decide +kernel
theorem dX10_isActRight_47 : decode cX10_isActRight 47 = .ok (.ifCond .eq 7, 3) := by decide +kernel
theorem dX10_isActRight_50 : decode cX10_isActRight 50 = .ok (.iconst 1, 1) := by decide +kernel
theorem dX10_isActRight_51 : decode cX10_isActRight 51 = .ok (.goto 4, 3) := by decide +kernel
theorem dX10_isActRight_54 : decode cX10_isActRight 54 = .ok (.iconst 0, 1) := by decide +kernel
theorem dX10_isActRight_55 : decode cX10_isActRight 55 = .ok (.ireturn, 1) := by decide +kernel
noncomputable def f_X10_isActRight (a0 : Nat) (l1 : Int32) (l2 : Int32) (l3 : Int32) (μ : Mm) : Option (Int32 × Mm) :=
  if (mm_K μ a0).1 = 11 then (gf_P 11 13 a0 μ).bind fun x1 => (f_X7_isPerson x1 l2 μ).bind fun x5 => if x5 = 0 then some ((0 : Int32), μ) else (gf_P 11 13 a0 μ).bind fun x12 => (f_X7_isFact x12 l3 μ).bind fun x16 => if x16 = 0 then some ((0 : Int32), μ) else (gf_P 11 3 a0 μ).bind fun x25 => (f_X4_setFact x25 l3 (7 : Int32) (0 : Int32) μ).bind fun x32 => (gf_P 11 3 a0 x32).bind fun x36 => (f_X4_aheadOfNight x36 l1 x32).bind fun x40 => if ((x40 >>> (l2 &&& 31)) &&& (1 : Int32)) = 0 then some ((0 : Int32), x32) else some ((1 : Int32), x32) else none
abbrev Rn_X10_isActRight (G : Gv) (Q : Option Value → Mm → Prop) (pc : Nat) (lv : List (Nat × Value)) (st : List Value) (μ : Mm) : Prop := Rn G RX10 cX10_isActRight 4 (some .boolean) "isActRight" (rmd 3 0 0) (Zm G 0 0 Q) 0 0 pc lv st μ
set_option maxRecDepth 100000 in
set_option maxHeartbeats 4000000 in
theorem m_X10_isActRight {G : Gv} (a0 : Nat) (l1 : Int32) (l2 : Int32) (l3 : Int32) (μ : Mm) {r : (Int32 × Mm)} (hx : f_X10_isActRight a0 l1 l2 l3 μ = some r) : Mt G yX10_isActRight cX10_isActRight 4 (some .boolean) 3 0 0 [.ref a0, .int l1, .int l2, .int l3] μ (fun v μ' => v = some (.int r.1) ∧ μ' = r.2) := by
  refine Mt.of (by decide) (Nat.le_of_ble_eq_true rfl) ?_
  show Rn_X10_isActRight G (fun v μ' => v = some (.int r.1) ∧ μ' = r.2) 0 [(0, .ref a0), (1, .int l1), (2, .int l2), (3, .int l3)] [] μ
  obtain ⟨_, h⟩ := Sat_ifp (show Sat (f_X10_isActRight a0 l1 l2 l3 μ) (fun x => x = r) from ⟨_, hx, rfl⟩)
  refine r_aload_n dX10_isActRight_0 0 rfl ?_
  obtain ⟨x1, e1, h⟩ := Sat_bind h
  refine r_getP fk_X10_63 rfl e1 dX10_isActRight_1 ?_
  refine r_iload_n dX10_isActRight_4 2 rfl ?_
  obtain ⟨x5, e5, h⟩ := Sat_bind h
  refine r_cV (t := 8) [.int l2] [] (m_X7_isPerson x1 l2 μ e5) ck_X7_isPerson lk_X10_178 in_X7_isPerson se_X7_isPerson (kd_of e5) ⟨rfl, by decide, by decide⟩ rfl rfl (Nat.le_of_ble_eq_true rfl) ⟨by decide, by decide⟩ ⟨Nat.zero_le _, Nat.zero_le _⟩ dX10_isActRight_5 ?_
  refine r_if_eq 22 dX10_isActRight_8 (by decide) (fun c8 => ?_) (fun c8 => ?_)
  · have h := Sat_pos c8 h
    refine r_iconst (v := 0) dX10_isActRight_22 (by decide) ?_
    exact r_zreturn rfl (by decide) (by rw [← Sat_eq h]; exact ⟨rfl, rfl⟩) dX10_isActRight_23
  · have h := Sat_neg c8 h
    refine r_aload_n dX10_isActRight_11 0 rfl ?_
    obtain ⟨x12, e12, h⟩ := Sat_bind h
    refine r_getP fk_X10_63 rfl e12 dX10_isActRight_12 ?_
    refine r_iload_n dX10_isActRight_15 3 rfl ?_
    obtain ⟨x16, e16, h⟩ := Sat_bind h
    refine r_cV (t := 8) [.int l3] [] (m_X7_isFact x12 l3 μ e16) ck_X7_isFact lk_X10_188 in_X7_isFact se_X7_isFact (kd_of e16) ⟨rfl, by decide, by decide⟩ rfl rfl (Nat.le_of_ble_eq_true rfl) ⟨by decide, by decide⟩ ⟨Nat.zero_le _, Nat.zero_le _⟩ dX10_isActRight_16 ?_
    refine r_if_ne 24 dX10_isActRight_19 (by decide) (fun c19 => ?_) (fun c19 => ?_)
    · have h := Sat_neg c19 h
      refine r_aload_n dX10_isActRight_24 0 rfl ?_
      obtain ⟨x25, e25, h⟩ := Sat_bind h
      refine r_getP fk_X10_84 rfl e25 dX10_isActRight_25 ?_
      refine r_iload_n dX10_isActRight_28 3 rfl ?_
      refine r_bipush (v := 7) dX10_isActRight_29 (by decide) ?_
      refine r_iconst (v := 0) dX10_isActRight_31 (by decide) ?_
      obtain ⟨x32, e32, h⟩ := Sat_bind h
      refine r_cV (t := 5) [.int l3, .int (7 : Int32), .int (0 : Int32)] [] (m_X4_setFact x25 l3 (7 : Int32) (0 : Int32) μ e32) ck_X4_setFact lk_X10_223 in_X4_setFact se_X4_setFact (kd_of e32) ⟨rfl, by decide, by decide⟩ rfl rfl (Nat.le_of_ble_eq_true rfl) ⟨by decide, by decide⟩ ⟨Nat.zero_le _, Nat.zero_le _⟩ dX10_isActRight_32 ?_
      refine r_aload_n dX10_isActRight_35 0 rfl ?_
      obtain ⟨x36, e36, h⟩ := Sat_bind h
      refine r_getP fk_X10_84 rfl e36 dX10_isActRight_36 ?_
      refine r_iload_n dX10_isActRight_39 1 rfl ?_
      obtain ⟨x40, e40, h⟩ := Sat_bind h
      refine r_cV (t := 5) [.int l1] [] (m_X4_aheadOfNight x36 l1 x32 e40) ck_X4_aheadOfNight lk_X10_267 in_X4_aheadOfNight se_X4_aheadOfNight (kd_of e40) ⟨rfl, by decide, by decide⟩ rfl rfl (Nat.le_of_ble_eq_true rfl) ⟨by decide, by decide⟩ ⟨Nat.zero_le _, Nat.zero_le _⟩ dX10_isActRight_40 ?_
      refine r_iload_n dX10_isActRight_43 2 rfl ?_
      refine r_ishr dX10_isActRight_44 ?_
      refine r_iconst (v := 1) dX10_isActRight_45 (by decide) ?_
      refine r_iand dX10_isActRight_46 ?_
      refine r_if_eq 54 dX10_isActRight_47 (by decide) (fun c47 => ?_) (fun c47 => ?_)
      · have h := Sat_pos c47 h
        refine r_iconst (v := 0) dX10_isActRight_54 (by decide) ?_
        exact r_zreturn rfl (by decide) (by rw [← Sat_eq h]; exact ⟨rfl, rfl⟩) dX10_isActRight_55
      · have h := Sat_neg c47 h
        refine r_iconst (v := 1) dX10_isActRight_50 (by decide) ?_
        refine r_goto 55 dX10_isActRight_51 (by decide) ?_
        exact r_zreturn rfl (by decide) (by rw [← Sat_eq h]; exact ⟨rfl, rfl⟩) dX10_isActRight_55
    · have h := Sat_pos c19 h
      refine r_iconst (v := 0) dX10_isActRight_22 (by decide) ?_
      exact r_zreturn rfl (by decide) (by rw [← Sat_eq h]; exact ⟨rfl, rfl⟩) dX10_isActRight_23
theorem dX4_behind_0 : decode cX4_behind 0 = .ok (.aload_n 0, 1) := by decide +kernel
theorem dX4_behind_1 : decode cX4_behind 1 = .ok (.aload_n 0, 1) := by decide +kernel
theorem dX4_behind_2 : decode cX4_behind 2 = .ok (.iload_n 1, 1) := by decide +kernel
theorem dX4_behind_3 : decode cX4_behind 3 = .ok (.invokevirtual 124, 3) := by decide +kernel
theorem dX4_behind_6 : decode cX4_behind 6 = .ok (.iload_n 1, 1) := by decide +kernel
theorem dX4_behind_7 : decode cX4_behind 7 = .ok (.invokevirtual 121, 3) := by decide +kernel
theorem dX4_behind_10 : decode cX4_behind 10 = .ok (.ireturn, 1) := by decide +kernel
noncomputable def f_X4_behind (a0 : Nat) (l1 : Int32) (μ : Mm) : Option Int32 :=
  if (mm_K μ a0).1 = 5 then (f_X4_aheadOfNight a0 l1 μ).bind fun x3 => (f_X4_byNight a0 x3 l1 μ).bind fun x7 => some x7 else none
abbrev Rn_X4_behind (G : Gv) (Q : Option Value → Mm → Prop) (pc : Nat) (lv : List (Nat × Value)) (st : List Value) (μ : Mm) : Prop := Rn G RX4 cX4_behind 2 (some .int) "behind" (rmd 3 0 0) (Zm G 0 0 Q) 0 0 pc lv st μ
set_option maxRecDepth 100000 in
set_option maxHeartbeats 4000000 in
theorem m_X4_behind {G : Gv} (a0 : Nat) (l1 : Int32) (μ : Mm) {r : Int32} (hx : f_X4_behind a0 l1 μ = some r) : Mt G yX4_behind cX4_behind 2 (some .int) 3 0 0 [.ref a0, .int l1] μ (fun v μ' => v = some (.int r) ∧ μ' = μ) := by
  refine Mt.of (by decide) (Nat.le_of_ble_eq_true rfl) ?_
  show Rn_X4_behind G (fun v μ' => v = some (.int r) ∧ μ' = μ) 0 [(0, .ref a0), (1, .int l1)] [] μ
  obtain ⟨_, h⟩ := Sat_ifp (show Sat (f_X4_behind a0 l1 μ) (fun x => x = r) from ⟨_, hx, rfl⟩)
  refine r_aload_n dX4_behind_0 0 rfl ?_
  refine r_aload_n dX4_behind_1 0 rfl ?_
  refine r_iload_n dX4_behind_2 1 rfl ?_
  obtain ⟨x3, e3, h⟩ := Sat_bind h
  refine r_cV (t := 5) [.int l1] [.ref a0] (m_X4_aheadOfNight a0 l1 μ e3) ck_X4_aheadOfNight lk_X4_124 in_X4_aheadOfNight se_X4_aheadOfNight (kd_of e3) ⟨rfl, by decide, by decide⟩ rfl rfl (Nat.le_of_ble_eq_true rfl) ⟨by decide, by decide⟩ ⟨Nat.zero_le _, Nat.zero_le _⟩ dX4_behind_3 ?_
  refine r_iload_n dX4_behind_6 1 rfl ?_
  obtain ⟨x7, e7, h⟩ := Sat_bind h
  refine r_cV (t := 5) [.int x3, .int l1] [] (m_X4_byNight a0 x3 l1 μ e7) ck_X4_byNight lk_X4_121 in_X4_byNight se_X4_byNight (kd_of e7) ⟨rfl, by decide, by decide⟩ rfl rfl (Nat.le_of_ble_eq_true rfl) ⟨by decide, by decide⟩ ⟨Nat.zero_le _, Nat.zero_le _⟩ dX4_behind_7 ?_
  exact r_ireturn rfl (by rw [← Sat_eq h]; exact ⟨rfl, rfl⟩) dX4_behind_10
theorem dX10_isKeptBy_0 : decode cX10_isKeptBy 0 = .ok (.aload_n 0, 1) := by decide +kernel
theorem dX10_isKeptBy_1 : decode cX10_isKeptBy 1 = .ok (.getfield 84, 3) := by decide +kernel
theorem dX10_isKeptBy_4 : decode cX10_isKeptBy 4 = .ok (.iload_n 3, 1) := by decide +kernel
theorem dX10_isKeptBy_5 : decode cX10_isKeptBy 5 = .ok (.bipush 7, 2) := by decide +kernel
theorem dX10_isKeptBy_7 : decode cX10_isKeptBy 7 = .ok (.iload_n 1, 1) := by decide +kernel
theorem dX10_isKeptBy_8 : decode cX10_isKeptBy 8 = .ok (.invokevirtual 223, 3) := by decide +kernel
theorem dX10_isKeptBy_11 : decode cX10_isKeptBy 11 = .ok (.aload_n 0, 1) := by decide +kernel
theorem dX10_isKeptBy_12 : decode cX10_isKeptBy 12 = .ok (.getfield 84, 3) := by decide +kernel
theorem dX10_isKeptBy_15 : decode cX10_isKeptBy 15 = .ok (.iload 4, 2) := by decide +kernel
theorem dX10_isKeptBy_17 : decode cX10_isKeptBy 17 = .ok (.invokevirtual 227, 3) := by decide +kernel
theorem dX10_isKeptBy_20 : decode cX10_isKeptBy 20 = .ok (.iload_n 2, 1) := by decide +kernel
theorem dX10_isKeptBy_21 : decode cX10_isKeptBy 21 = .ok (.ishr, 1) := by decide +kernel
theorem dX10_isKeptBy_22 : decode cX10_isKeptBy 22 = .ok (.iconst 1, 1) := by decide +kernel
theorem dX10_isKeptBy_23 : decode cX10_isKeptBy 23 = .ok (.iand, 1) := by decide +kernel
theorem dX10_isKeptBy_24 : decode cX10_isKeptBy 24 = .ok (.ifCond .ne 7, 3) := by decide +kernel
theorem dX10_isKeptBy_27 : decode cX10_isKeptBy 27 = .ok (.iconst 1, 1) := by decide +kernel
theorem dX10_isKeptBy_28 : decode cX10_isKeptBy 28 = .ok (.goto 4, 3) := by decide +kernel
theorem dX10_isKeptBy_31 : decode cX10_isKeptBy 31 = .ok (.iconst 0, 1) := by decide +kernel
theorem dX10_isKeptBy_32 : decode cX10_isKeptBy 32 = .ok (.ireturn, 1) := by decide +kernel
noncomputable def f_X10_isKeptBy (a0 : Nat) (l1 : Int32) (l2 : Int32) (l3 : Int32) (l4 : Int32) (μ : Mm) : Option (Int32 × Mm) :=
  if (mm_K μ a0).1 = 11 then (gf_P 11 3 a0 μ).bind fun x1 => (f_X4_setFact x1 l3 (7 : Int32) l1 μ).bind fun x8 => (gf_P 11 3 a0 x8).bind fun x12 => (f_X4_behind x12 l4 x8).bind fun x17 => if ((x17 >>> (l2 &&& 31)) &&& (1 : Int32)) = 0 then some ((1 : Int32), x8) else some ((0 : Int32), x8) else none
abbrev Rn_X10_isKeptBy (G : Gv) (Q : Option Value → Mm → Prop) (pc : Nat) (lv : List (Nat × Value)) (st : List Value) (μ : Mm) : Prop := Rn G RX10 cX10_isKeptBy 5 (some .boolean) "isKeptBy" (rmd 4 0 0) (Zm G 0 0 Q) 0 0 pc lv st μ
set_option maxRecDepth 100000 in
set_option maxHeartbeats 4000000 in
theorem m_X10_isKeptBy {G : Gv} (a0 : Nat) (l1 : Int32) (l2 : Int32) (l3 : Int32) (l4 : Int32) (μ : Mm) {r : (Int32 × Mm)} (hx : f_X10_isKeptBy a0 l1 l2 l3 l4 μ = some r) : Mt G yX10_isKeptBy cX10_isKeptBy 5 (some .boolean) 4 0 0 [.ref a0, .int l1, .int l2, .int l3, .int l4] μ (fun v μ' => v = some (.int r.1) ∧ μ' = r.2) := by
  refine Mt.of (by decide) (Nat.le_of_ble_eq_true rfl) ?_
  show Rn_X10_isKeptBy G (fun v μ' => v = some (.int r.1) ∧ μ' = r.2) 0 [(0, .ref a0), (1, .int l1), (2, .int l2), (3, .int l3), (4, .int l4)] [] μ
  obtain ⟨_, h⟩ := Sat_ifp (show Sat (f_X10_isKeptBy a0 l1 l2 l3 l4 μ) (fun x => x = r) from ⟨_, hx, rfl⟩)
  refine r_aload_n dX10_isKeptBy_0 0 rfl ?_
  obtain ⟨x1, e1, h⟩ := Sat_bind h
  refine r_getP fk_X10_84 rfl e1 dX10_isKeptBy_1 ?_
  refine r_iload_n dX10_isKeptBy_4 3 rfl ?_
  refine r_bipush (v := 7) dX10_isKeptBy_5 (by decide) ?_
  refine r_iload_n dX10_isKeptBy_7 1 rfl ?_
  obtain ⟨x8, e8, h⟩ := Sat_bind h
  refine r_cV (t := 5) [.int l3, .int (7 : Int32), .int l1] [] (m_X4_setFact x1 l3 (7 : Int32) l1 μ e8) ck_X4_setFact lk_X10_223 in_X4_setFact se_X4_setFact (kd_of e8) ⟨rfl, by decide, by decide⟩ rfl rfl (Nat.le_of_ble_eq_true rfl) ⟨by decide, by decide⟩ ⟨Nat.zero_le _, Nat.zero_le _⟩ dX10_isKeptBy_8 ?_
  refine r_aload_n dX10_isKeptBy_11 0 rfl ?_
  obtain ⟨x12, e12, h⟩ := Sat_bind h
  refine r_getP fk_X10_84 rfl e12 dX10_isKeptBy_12 ?_
  refine r_iload dX10_isKeptBy_15 4 rfl ?_
  obtain ⟨x17, e17, h⟩ := Sat_bind h
  refine r_cV (t := 5) [.int l4] [] (m_X4_behind x12 l4 x8 e17) ck_X4_behind lk_X10_227 in_X4_behind se_X4_behind (kd_of e17) ⟨rfl, by decide, by decide⟩ rfl rfl (Nat.le_of_ble_eq_true rfl) ⟨by decide, by decide⟩ ⟨Nat.zero_le _, Nat.zero_le _⟩ dX10_isKeptBy_17 ?_
  refine r_iload_n dX10_isKeptBy_20 2 rfl ?_
  refine r_ishr dX10_isKeptBy_21 ?_
  refine r_iconst (v := 1) dX10_isKeptBy_22 (by decide) ?_
  refine r_iand dX10_isKeptBy_23 ?_
  refine r_if_ne 31 dX10_isKeptBy_24 (by decide) (fun c24 => ?_) (fun c24 => ?_)
  · have h := Sat_neg c24 h
    refine r_iconst (v := 0) dX10_isKeptBy_31 (by decide) ?_
    exact r_zreturn rfl (by decide) (by rw [← Sat_eq h]; exact ⟨rfl, rfl⟩) dX10_isKeptBy_32
  · have h := Sat_pos c24 h
    refine r_iconst (v := 1) dX10_isKeptBy_27 (by decide) ?_
    refine r_goto 32 dX10_isKeptBy_28 (by decide) ?_
    exact r_zreturn rfl (by decide) (by rw [← Sat_eq h]; exact ⟨rfl, rfl⟩) dX10_isKeptBy_32
theorem dX5_at_0 : decode cX5_at 0 = .ok (.iload_n 1, 1) := by decide +kernel
theorem dX5_at_1 : decode cX5_at 1 = .ok (.ifCond .lt 20, 3) := by decide +kernel
theorem dX5_at_4 : decode cX5_at 4 = .ok (.iload_n 1, 1) := by decide +kernel
theorem dX5_at_5 : decode cX5_at 5 = .ok (.aload_n 0, 1) := by decide +kernel
theorem dX5_at_6 : decode cX5_at 6 = .ok (.getfield 15, 3) := by decide +kernel
theorem dX5_at_9 : decode cX5_at 9 = .ok (.if_icmp .ge 12, 3) := by decide +kernel
theorem dX5_at_12 : decode cX5_at 12 = .ok (.aload_n 0, 1) := by decide +kernel
theorem dX5_at_13 : decode cX5_at 13 = .ok (.getfield 11, 3) := by decide +kernel
theorem dX5_at_16 : decode cX5_at 16 = .ok (.iload_n 1, 1) := by decide +kernel
theorem dX5_at_17 : decode cX5_at 17 = .ok (.iaload, 1) := by decide +kernel
theorem dX5_at_18 : decode cX5_at 18 = .ok (.goto 4, 3) := by decide +kernel
theorem dX5_at_21 : decode cX5_at 21 = .ok (.iconst (-1), 1) := by decide +kernel
theorem dX5_at_22 : decode cX5_at 22 = .ok (.ireturn, 1) := by decide +kernel
noncomputable def f_X5_at_J21  (μ : Mm) : Option Int32 :=
  some (-1 : Int32)
noncomputable def f_X5_at (a0 : Nat) (l1 : Int32) (μ : Mm) : Option Int32 :=
  if (mm_K μ a0).1 = 6 then if l1 < 0 then f_X5_at_J21 μ else (gf_I 6 1 a0 μ).bind fun x6 => if x6 ≤ l1 then f_X5_at_J21 μ else (gf_P 6 0 a0 μ).bind fun x13 => (ga_I x13 l1 μ).bind fun x17 => some x17 else none
abbrev Rn_X5_at (G : Gv) (Q : Option Value → Mm → Prop) (pc : Nat) (lv : List (Nat × Value)) (st : List Value) (μ : Mm) : Prop := Rn G RX5 cX5_at 2 (some .int) "at" (rmd 0 0 0) (Zm G 0 0 Q) 0 0 pc lv st μ
set_option maxRecDepth 100000 in
set_option maxHeartbeats 4000000 in
theorem m_X5_at {G : Gv} (a0 : Nat) (l1 : Int32) (μ : Mm) {r : Int32} (hx : f_X5_at a0 l1 μ = some r) : Mt G yX5_at cX5_at 2 (some .int) 0 0 0 [.ref a0, .int l1] μ (fun v μ' => v = some (.int r) ∧ μ' = μ) := by
  refine Mt.of (by decide) (Nat.le_of_ble_eq_true rfl) ?_
  show Rn_X5_at G (fun v μ' => v = some (.int r) ∧ μ' = μ) 0 [(0, .ref a0), (1, .int l1)] [] μ
  obtain ⟨_, h⟩ := Sat_ifp (show Sat (f_X5_at a0 l1 μ) (fun x => x = r) from ⟨_, hx, rfl⟩)
  have J21 : Sat (f_X5_at_J21 μ) (fun x => x = r) → Rn_X5_at G (fun v μ' => v = some (.int r) ∧ μ' = μ) 21 [] [] μ := by
    intro  h
    refine r_iconst (v := -1) dX5_at_21 (by decide) ?_
    exact r_ireturn rfl (by rw [← Sat_eq h]; exact ⟨rfl, rfl⟩) dX5_at_22
  refine r_iload_n dX5_at_0 1 rfl ?_
  refine r_if_lt 21 dX5_at_1 (by decide) (fun c1 => ?_) (fun c1 => ?_)
  · have h := Sat_pos c1 h
    exact r_sub [] rfl (J21  h)
  · have h := Sat_neg c1 h
    refine r_iload_n dX5_at_4 1 rfl ?_
    refine r_aload_n dX5_at_5 0 rfl ?_
    obtain ⟨x6, e6, h⟩ := Sat_bind h
    refine r_getI fk_X5_15 rfl e6 dX5_at_6 ?_
    refine r_icmp_ge 21 dX5_at_9 (by decide) (fun c9 => ?_) (fun c9 => ?_)
    · have h := Sat_pos c9 h
      exact r_sub [] rfl (J21  h)
    · have h := Sat_neg c9 h
      refine r_aload_n dX5_at_12 0 rfl ?_
      obtain ⟨x13, e13, h⟩ := Sat_bind h
      refine r_getP fk_X5_11 rfl e13 dX5_at_13 ?_
      refine r_iload_n dX5_at_16 1 rfl ?_
      obtain ⟨x17, e17, h⟩ := Sat_bind h
      refine r_iaload e17 dX5_at_17 ?_
      refine r_goto 22 dX5_at_18 (by decide) ?_
      exact r_ireturn rfl (by rw [← Sat_eq h]; exact ⟨rfl, rfl⟩) dX5_at_22
theorem dX6_isDigit_0 : decode cX6_isDigit 0 = .ok (.iload_n 0, 1) := by decide +kernel
theorem dX6_isDigit_1 : decode cX6_isDigit 1 = .ok (.bipush 48, 2) := by decide +kernel
theorem dX6_isDigit_3 : decode cX6_isDigit 3 = .ok (.if_icmp .lt 13, 3) := by decide +kernel
theorem dX6_isDigit_6 : decode cX6_isDigit 6 = .ok (.iload_n 0, 1) := by decide +kernel
theorem dX6_isDigit_7 : decode cX6_isDigit 7 = .ok (.bipush 57, 2) := by decide +kernel
theorem dX6_isDigit_9 : decode cX6_isDigit 9 = .ok (.if_icmp .gt 7, 3) := by decide +kernel
theorem dX6_isDigit_12 : decode cX6_isDigit 12 = .ok (.iconst 1, 1) := by decide +kernel
theorem dX6_isDigit_13 : decode cX6_isDigit 13 = .ok (.goto 4, 3) := by decide +kernel
theorem dX6_isDigit_16 : decode cX6_isDigit 16 = .ok (.iconst 0, 1) := by decide +kernel
theorem dX6_isDigit_17 : decode cX6_isDigit 17 = .ok (.ireturn, 1) := by decide +kernel
noncomputable def f_X6_isDigit_J16  (μ : Mm) : Option Int32 :=
  some (0 : Int32)
noncomputable def f_X6_isDigit (l0 : Int32) (μ : Mm) : Option Int32 :=
  if l0 < (48 : Int32) then f_X6_isDigit_J16 μ else if (57 : Int32) < l0 then f_X6_isDigit_J16 μ else some (1 : Int32)
abbrev Rn_X6_isDigit (G : Gv) (Q : Option Value → Mm → Prop) (pc : Nat) (lv : List (Nat × Value)) (st : List Value) (μ : Mm) : Prop := Rn G RX6 cX6_isDigit 1 (some .boolean) "isDigit" (rmd 0 0 0) (Zm G 0 0 Q) 0 0 pc lv st μ
set_option maxRecDepth 100000 in
set_option maxHeartbeats 4000000 in
theorem m_X6_isDigit {G : Gv} (l0 : Int32) (μ : Mm) {r : Int32} (hx : f_X6_isDigit l0 μ = some r) : Mt G yX6_isDigit cX6_isDigit 1 (some .boolean) 0 0 0 [.int l0] μ (fun v μ' => v = some (.int r) ∧ μ' = μ) := by
  refine Mt.of (by decide) (Nat.le_of_ble_eq_true rfl) ?_
  show Rn_X6_isDigit G (fun v μ' => v = some (.int r) ∧ μ' = μ) 0 [(0, .int l0)] [] μ
  have h : Sat (f_X6_isDigit l0 μ) (fun x => x = r) := ⟨_, hx, rfl⟩
  have J16 : Sat (f_X6_isDigit_J16 μ) (fun x => x = r) → Rn_X6_isDigit G (fun v μ' => v = some (.int r) ∧ μ' = μ) 16 [] [] μ := by
    intro  h
    refine r_iconst (v := 0) dX6_isDigit_16 (by decide) ?_
    exact r_zreturn rfl (by decide) (by rw [← Sat_eq h]; exact ⟨rfl, rfl⟩) dX6_isDigit_17
  refine r_iload_n dX6_isDigit_0 0 rfl ?_
  refine r_bipush (v := 48) dX6_isDigit_1 (by decide) ?_
  refine r_icmp_lt 16 dX6_isDigit_3 (by decide) (fun c3 => ?_) (fun c3 => ?_)
  · have h := Sat_pos c3 h
    exact r_sub [] rfl (J16  h)
  · have h := Sat_neg c3 h
    refine r_iload_n dX6_isDigit_6 0 rfl ?_
    refine r_bipush (v := 57) dX6_isDigit_7 (by decide) ?_
    refine r_icmp_gt 16 dX6_isDigit_9 (by decide) (fun c9 => ?_) (fun c9 => ?_)
    · have h := Sat_pos c9 h
      exact r_sub [] rfl (J16  h)
    · have h := Sat_neg c9 h
      refine r_iconst (v := 1) dX6_isDigit_12 (by decide) ?_
      refine r_goto 17 dX6_isDigit_13 (by decide) ?_
      exact r_zreturn rfl (by decide) (by rw [← Sat_eq h]; exact ⟨rfl, rfl⟩) dX6_isDigit_17
theorem dX6_isLetter_0 : decode cX6_isLetter 0 = .ok (.iload_n 0, 1) := by decide +kernel
theorem dX6_isLetter_1 : decode cX6_isLetter 1 = .ok (.bipush 97, 2) := by decide +kernel
theorem dX6_isLetter_3 : decode cX6_isLetter 3 = .ok (.if_icmp .lt 13, 3) := by decide +kernel
theorem dX6_isLetter_6 : decode cX6_isLetter 6 = .ok (.iload_n 0, 1) := by decide +kernel
theorem dX6_isLetter_7 : decode cX6_isLetter 7 = .ok (.bipush 122, 2) := by decide +kernel
theorem dX6_isLetter_9 : decode cX6_isLetter 9 = .ok (.if_icmp .gt 7, 3) := by decide +kernel
theorem dX6_isLetter_12 : decode cX6_isLetter 12 = .ok (.iconst 1, 1) := by decide +kernel
theorem dX6_isLetter_13 : decode cX6_isLetter 13 = .ok (.goto 4, 3) := by decide +kernel
theorem dX6_isLetter_16 : decode cX6_isLetter 16 = .ok (.iconst 0, 1) := by decide +kernel
theorem dX6_isLetter_17 : decode cX6_isLetter 17 = .ok (.ireturn, 1) := by decide +kernel
noncomputable def f_X6_isLetter_J16  (μ : Mm) : Option Int32 :=
  some (0 : Int32)
noncomputable def f_X6_isLetter (l0 : Int32) (μ : Mm) : Option Int32 :=
  if l0 < (97 : Int32) then f_X6_isLetter_J16 μ else if (122 : Int32) < l0 then f_X6_isLetter_J16 μ else some (1 : Int32)
abbrev Rn_X6_isLetter (G : Gv) (Q : Option Value → Mm → Prop) (pc : Nat) (lv : List (Nat × Value)) (st : List Value) (μ : Mm) : Prop := Rn G RX6 cX6_isLetter 1 (some .boolean) "isLetter" (rmd 0 0 0) (Zm G 0 0 Q) 0 0 pc lv st μ
set_option maxRecDepth 100000 in
set_option maxHeartbeats 4000000 in
theorem m_X6_isLetter {G : Gv} (l0 : Int32) (μ : Mm) {r : Int32} (hx : f_X6_isLetter l0 μ = some r) : Mt G yX6_isLetter cX6_isLetter 1 (some .boolean) 0 0 0 [.int l0] μ (fun v μ' => v = some (.int r) ∧ μ' = μ) := by
  refine Mt.of (by decide) (Nat.le_of_ble_eq_true rfl) ?_
  show Rn_X6_isLetter G (fun v μ' => v = some (.int r) ∧ μ' = μ) 0 [(0, .int l0)] [] μ
  have h : Sat (f_X6_isLetter l0 μ) (fun x => x = r) := ⟨_, hx, rfl⟩
  have J16 : Sat (f_X6_isLetter_J16 μ) (fun x => x = r) → Rn_X6_isLetter G (fun v μ' => v = some (.int r) ∧ μ' = μ) 16 [] [] μ := by
    intro  h
    refine r_iconst (v := 0) dX6_isLetter_16 (by decide) ?_
    exact r_zreturn rfl (by decide) (by rw [← Sat_eq h]; exact ⟨rfl, rfl⟩) dX6_isLetter_17
  refine r_iload_n dX6_isLetter_0 0 rfl ?_
  refine r_bipush (v := 97) dX6_isLetter_1 (by decide) ?_
  refine r_icmp_lt 16 dX6_isLetter_3 (by decide) (fun c3 => ?_) (fun c3 => ?_)
  · have h := Sat_pos c3 h
    exact r_sub [] rfl (J16  h)
  · have h := Sat_neg c3 h
    refine r_iload_n dX6_isLetter_6 0 rfl ?_
    refine r_bipush (v := 122) dX6_isLetter_7 (by decide) ?_
    refine r_icmp_gt 16 dX6_isLetter_9 (by decide) (fun c9 => ?_) (fun c9 => ?_)
    · have h := Sat_pos c9 h
      exact r_sub [] rfl (J16  h)
    · have h := Sat_neg c9 h
      refine r_iconst (v := 1) dX6_isLetter_12 (by decide) ?_
      refine r_goto 17 dX6_isLetter_13 (by decide) ?_
      exact r_zreturn rfl (by decide) (by rw [← Sat_eq h]; exact ⟨rfl, rfl⟩) dX6_isLetter_17
theorem dX6_readDigits_0 : decode cX6_readDigits 0 = .ok (.aload_n 0, 1) := by decide +kernel
theorem dX6_readDigits_1 : decode cX6_readDigits 1 = .ok (.iconst 0, 1) := by decide +kernel
theorem dX6_readDigits_2 : decode cX6_readDigits 2 = .ok (.putfield 57, 3) := by decide +kernel
theorem dX6_readDigits_5 : decode cX6_readDigits 5 = .ok (.aload_n 0, 1) := by decide +kernel
theorem dX6_readDigits_6 : decode cX6_readDigits 6 = .ok (.getfield 15, 3) := by decide +kernel
theorem dX6_readDigits_9 : decode cX6_readDigits 9 = .ok (.aload_n 0, 1) := by decide +kernel
theorem dX6_readDigits_10 : decode cX6_readDigits 10 = .ok (.getfield 9, 3) := by decide +kernel
theorem dX6_readDigits_13 : decode cX6_readDigits 13 = .ok (.getfield 47, 3) := by decide +kernel
theorem dX6_readDigits_16 : decode cX6_readDigits 16 = .ok (.if_icmp .ge 59, 3) := by decide +kernel
theorem dX6_readDigits_19 : decode cX6_readDigits 19 = .ok (.aload_n 0, 1) := by decide +kernel
theorem dX6_readDigits_20 : decode cX6_readDigits 20 = .ok (.getfield 9, 3) := by decide +kernel
theorem dX6_readDigits_23 : decode cX6_readDigits 23 = .ok (.aload_n 0, 1) := by decide +kernel
theorem dX6_readDigits_24 : decode cX6_readDigits 24 = .ok (.getfield 15, 3) := by decide +kernel
theorem dX6_readDigits_27 : decode cX6_readDigits 27 = .ok (.invokevirtual 25, 3) := by decide +kernel
theorem dX6_readDigits_30 : decode cX6_readDigits 30 = .ok (.invokestatic 41, 3) := by decide +kernel
theorem dX6_readDigits_33 : decode cX6_readDigits 33 = .ok (.ifCond .eq 42, 3) := by decide +kernel
theorem dX6_readDigits_36 : decode cX6_readDigits 36 = .ok (.aload_n 0, 1) := by decide +kernel
theorem dX6_readDigits_37 : decode cX6_readDigits 37 = .ok (.aload_n 0, 1) := by decide +kernel
theorem dX6_readDigits_38 : decode cX6_readDigits 38 = .ok (.getfield 57, 3) := by decide +kernel
theorem dX6_readDigits_41 : decode cX6_readDigits 41 = .ok (.bipush 10, 2) := by decide +kernel
theorem dX6_readDigits_43 : decode cX6_readDigits 43 = .ok (.imul, 1) := by decide +kernel
theorem dX6_readDigits_44 : decode cX6_readDigits 44 = .ok (.aload_n 0, 1) := by decide +kernel
theorem dX6_readDigits_45 : decode cX6_readDigits 45 = .ok (.getfield 9, 3) := by decide +kernel
theorem dX6_readDigits_48 : decode cX6_readDigits 48 = .ok (.aload_n 0, 1) := by decide +kernel
theorem dX6_readDigits_49 : decode cX6_readDigits 49 = .ok (.getfield 15, 3) := by decide +kernel
theorem dX6_readDigits_52 : decode cX6_readDigits 52 = .ok (.invokevirtual 25, 3) := by decide +kernel
theorem dX6_readDigits_55 : decode cX6_readDigits 55 = .ok (.iadd, 1) := by decide +kernel
theorem dX6_readDigits_56 : decode cX6_readDigits 56 = .ok (.bipush 48, 2) := by decide +kernel
theorem dX6_readDigits_58 : decode cX6_readDigits 58 = .ok (.isub, 1) := by decide +kernel
theorem dX6_readDigits_59 : decode cX6_readDigits 59 = .ok (.putfield 57, 3) := by decide +kernel
theorem dX6_readDigits_62 : decode cX6_readDigits 62 = .ok (.aload_n 0, 1) := by decide +kernel
theorem dX6_readDigits_63 : decode cX6_readDigits 63 = .ok (.dup, 1) := by decide +kernel
theorem dX6_readDigits_64 : decode cX6_readDigits 64 = .ok (.getfield 15, 3) := by decide +kernel
theorem dX6_readDigits_67 : decode cX6_readDigits 67 = .ok (.iconst 1, 1) := by decide +kernel
theorem dX6_readDigits_68 : decode cX6_readDigits 68 = .ok (.iadd, 1) := by decide +kernel
theorem dX6_readDigits_69 : decode cX6_readDigits 69 = .ok (.putfield 15, 3) := by decide +kernel
theorem dX6_readDigits_72 : decode cX6_readDigits 72 = .ok (.goto (-67), 3) := by decide +kernel
theorem dX6_readDigits_75 : decode cX6_readDigits 75 = .ok (.aload_n 0, 1) := by decide +kernel
theorem dX6_readDigits_76 : decode cX6_readDigits 76 = .ok (.aload_n 0, 1) := by decide +kernel
theorem dX6_readDigits_77 : decode cX6_readDigits 77 = .ok (.getfield 15, 3) := by decide +kernel
theorem dX6_readDigits_80 : decode cX6_readDigits 80 = .ok (.aload_n 0, 1) := by decide +kernel
theorem dX6_readDigits_81 : decode cX6_readDigits 81 = .ok (.getfield 22, 3) := by decide +kernel
theorem dX6_readDigits_84 : decode cX6_readDigits 84 = .ok (.isub, 1) := by decide +kernel
theorem dX6_readDigits_85 : decode cX6_readDigits 85 = .ok (.putfield 54, 3) := by decide +kernel
theorem dX6_readDigits_88 : decode cX6_readDigits 88 = .ok (.aload_n 0, 1) := by decide +kernel
theorem dX6_readDigits_89 : decode cX6_readDigits 89 = .ok (.aload_n 0, 1) := by decide +kernel
theorem dX6_readDigits_90 : decode cX6_readDigits 90 = .ok (.getfield 54, 3) := by decide +kernel
theorem dX6_readDigits_93 : decode cX6_readDigits 93 = .ok (.iconst 4, 1) := by decide +kernel
theorem dX6_readDigits_94 : decode cX6_readDigits 94 = .ok (.if_icmp .gt 7, 3) := by decide +kernel
theorem dX6_readDigits_97 : decode cX6_readDigits 97 = .ok (.iconst 2, 1) := by decide +kernel
theorem dX6_readDigits_98 : decode cX6_readDigits 98 = .ok (.goto 4, 3) := by decide +kernel
theorem dX6_readDigits_101 : decode cX6_readDigits 101 = .ok (.iconst 4, 1) := by decide +kernel
theorem dX6_readDigits_102 : decode cX6_readDigits 102 = .ok (.putfield 31, 3) := by decide +kernel
theorem dX6_readDigits_105 : decode cX6_readDigits 105 = .ok (.return_, 1) := by decide +kernel
noncomputable def f_X6_readDigits_J102  (k0 : Nat) (k1 : Int32) (μ : Mm) : Option Mm :=
  (pf_I 7 2 k0 k1 μ).bind fun μ102 => some μ102
noncomputable def f_X6_readDigits_J75 (a0 : Nat) (μ : Mm) : Option Mm :=
  (gf_I 7 1 a0 μ).bind fun x77 => (gf_I 7 3 a0 μ).bind fun x81 => (pf_I 7 4 a0 (x77 - x81) μ).bind fun μ85 => (gf_I 7 4 a0 μ85).bind fun x90 => if (4 : Int32) < x90 then f_X6_readDigits_J102 a0 (4 : Int32) μ85 else f_X6_readDigits_J102 a0 (2 : Int32) μ85
noncomputable def f_X6_readDigits_L5 (a0 : Nat) (s5 : Mm) : Option ((Mm) ⊕ (Mm)) :=
  (gf_I 7 1 a0 s5).bind fun x6 => (gf_P 7 0 a0 s5).bind fun x10 => (gf_I 6 1 x10 s5).bind fun x13 => if x13 ≤ x6 then some (.inr s5) else (gf_P 7 0 a0 s5).bind fun x20 => (gf_I 7 1 a0 s5).bind fun x24 => (f_X5_at x20 x24 s5).bind fun x27 => (f_X6_isDigit x27 s5).bind fun x30 => if x30 = 0 then some (.inr s5) else (gf_I 7 5 a0 s5).bind fun x38 => (gf_P 7 0 a0 s5).bind fun x45 => (gf_I 7 1 a0 s5).bind fun x49 => (f_X5_at x45 x49 s5).bind fun x52 => (pf_I 7 5 a0 (((x38 * (10 : Int32)) + x52) - (48 : Int32)) s5).bind fun μ59 => (gf_I 7 1 a0 μ59).bind fun x64 => (pf_I 7 1 a0 (x64 + (1 : Int32)) μ59).bind fun μ69 => some (.inl μ69)
noncomputable def f_X6_readDigits (a0 : Nat) (μ : Mm) : Option Mm :=
  if (mm_K μ a0).1 = 7 then (pf_I 7 5 a0 (0 : Int32) μ).bind fun μ2 => (whl (f_X6_readDigits_L5 a0) μ2).bind (fun b5 => f_X6_readDigits_J75 a0 b5) else none
abbrev Rn_X6_readDigits (G : Gv) (Q : Option Value → Mm → Prop) (pc : Nat) (lv : List (Nat × Value)) (st : List Value) (μ : Mm) : Prop := Rn G RX6 cX6_readDigits 1 none "readDigits" (rmd 1 0 0) (Zm G 0 0 Q) 0 0 pc lv st μ
set_option maxRecDepth 100000 in
set_option maxHeartbeats 4000000 in
theorem m_X6_readDigits {G : Gv} (a0 : Nat) (μ : Mm) {r : Mm} (hx : f_X6_readDigits a0 μ = some r) : Mt G yX6_readDigits cX6_readDigits 1 none 1 0 0 [.ref a0] μ (fun v μ' => v = none ∧ μ' = r) := by
  refine Mt.of (by decide) (Nat.le_of_ble_eq_true rfl) ?_
  show Rn_X6_readDigits G (fun v μ' => v = none ∧ μ' = r) 0 [(0, .ref a0)] [] μ
  obtain ⟨_, h⟩ := Sat_ifp (show Sat (f_X6_readDigits a0 μ) (fun x => x = r) from ⟨_, hx, rfl⟩)
  have J102 : ∀ (k0_102 : Nat) (k1_102 : Int32) (μ_102 : Mm), Sat (f_X6_readDigits_J102 k0_102 k1_102 μ_102) (fun x => x = r) → Rn_X6_readDigits G (fun v μ' => v = none ∧ μ' = r) 102 [] [.int k1_102, .ref k0_102] μ_102 := by
    intro k0_102 k1_102 μ_102 h
    obtain ⟨μ102, e102, h⟩ := Sat_bind h
    refine r_putI fk_X6_31 rfl rfl e102 dX6_readDigits_102 ?_
    exact r_vreturn rfl (by rw [← Sat_eq h]; exact ⟨rfl, rfl⟩) dX6_readDigits_105
  have J75 : ∀ (a0_75 : Nat) (μ_75 : Mm), Sat (f_X6_readDigits_J75 a0_75 μ_75) (fun x => x = r) → Rn_X6_readDigits G (fun v μ' => v = none ∧ μ' = r) 75 [(0, .ref a0_75)] [] μ_75 := by
    intro a0_75 μ_75 h
    refine r_aload_n dX6_readDigits_75 0 rfl ?_
    refine r_aload_n dX6_readDigits_76 0 rfl ?_
    obtain ⟨x77, e77, h⟩ := Sat_bind h
    refine r_getI fk_X6_15 rfl e77 dX6_readDigits_77 ?_
    refine r_aload_n dX6_readDigits_80 0 rfl ?_
    obtain ⟨x81, e81, h⟩ := Sat_bind h
    refine r_getI fk_X6_22 rfl e81 dX6_readDigits_81 ?_
    refine r_isub dX6_readDigits_84 ?_
    obtain ⟨μ85, e85, h⟩ := Sat_bind h
    refine r_putI fk_X6_54 rfl rfl e85 dX6_readDigits_85 ?_
    refine r_aload_n dX6_readDigits_88 0 rfl ?_
    refine r_aload_n dX6_readDigits_89 0 rfl ?_
    obtain ⟨x90, e90, h⟩ := Sat_bind h
    refine r_getI fk_X6_54 rfl e90 dX6_readDigits_90 ?_
    refine r_iconst (v := 4) dX6_readDigits_93 (by decide) ?_
    refine r_icmp_gt 101 dX6_readDigits_94 (by decide) (fun c94 => ?_) (fun c94 => ?_)
    · have h := Sat_pos c94 h
      refine r_iconst (v := 4) dX6_readDigits_101 (by decide) ?_
      exact r_sub [] rfl (J102 a0_75 (4 : Int32) μ85 h)
    · have h := Sat_neg c94 h
      refine r_iconst (v := 2) dX6_readDigits_97 (by decide) ?_
      refine r_goto 102 dX6_readDigits_98 (by decide) ?_
      exact r_sub [] rfl (J102 a0_75 (2 : Int32) μ85 h)
  refine r_aload_n dX6_readDigits_0 0 rfl ?_
  refine r_iconst (v := 0) dX6_readDigits_1 (by decide) ?_
  obtain ⟨μ2, e2, h⟩ := Sat_bind h
  refine r_putI fk_X6_57 rfl rfl e2 dX6_readDigits_2 ?_
  refine r_sub (lv' := [(0, .ref a0)]) [0] rfl ?_
  refine whl_K (s0 := (μ2 : Mm)) (RR := fun (s5 : Mm) => Rn_X6_readDigits G (fun v μ' => v = none ∧ μ' = r) 5 [(0, .ref a0)] [] s5) ?_ (Sat_bindK h)
  intro s5 K5 hI5 hX5 h
  refine r_aload_n dX6_readDigits_5 0 rfl ?_
  obtain ⟨x6, e6, h⟩ := Sat_bind h
  refine r_getI fk_X6_15 rfl e6 dX6_readDigits_6 ?_
  refine r_aload_n dX6_readDigits_9 0 rfl ?_
  obtain ⟨x10, e10, h⟩ := Sat_bind h
  refine r_getP fk_X6_9 rfl e10 dX6_readDigits_10 ?_
  obtain ⟨x13, e13, h⟩ := Sat_bind h
  refine r_getI fk_X6_47 rfl e13 dX6_readDigits_13 ?_
  refine r_icmp_ge 75 dX6_readDigits_16 (by decide) (fun c16 => ?_) (fun c16 => ?_)
  · have h := Sat_pos c16 h
    have h := hX5 _ (Sat_some h)
    exact r_sub [0] rfl (J75 a0 s5 h)
  · have h := Sat_neg c16 h
    refine r_aload_n dX6_readDigits_19 0 rfl ?_
    obtain ⟨x20, e20, h⟩ := Sat_bind h
    refine r_getP fk_X6_9 rfl e20 dX6_readDigits_20 ?_
    refine r_aload_n dX6_readDigits_23 0 rfl ?_
    obtain ⟨x24, e24, h⟩ := Sat_bind h
    refine r_getI fk_X6_15 rfl e24 dX6_readDigits_24 ?_
    obtain ⟨x27, e27, h⟩ := Sat_bind h
    refine r_cV (t := 6) [.int x24] [] (m_X5_at x20 x24 s5 e27) ck_X5_at lk_X6_25 in_X5_at se_X5_at (kd_of e27) ⟨rfl, by decide, by decide⟩ rfl rfl (Nat.le_of_ble_eq_true rfl) ⟨by decide, by decide⟩ ⟨Nat.zero_le _, Nat.zero_le _⟩ dX6_readDigits_27 ?_
    obtain ⟨x30, e30, h⟩ := Sat_bind h
    refine r_cS [.int x27] [] (m_X6_isDigit x27 s5 e30) ck_X6_isDigit lk_X6_41 st_X6_isDigit rfl rfl (Nat.le_of_ble_eq_true rfl) ⟨by decide, by decide⟩ ⟨Nat.zero_le _, Nat.zero_le _⟩ dX6_readDigits_30 ?_
    refine r_if_eq 75 dX6_readDigits_33 (by decide) (fun c33 => ?_) (fun c33 => ?_)
    · have h := Sat_pos c33 h
      have h := hX5 _ (Sat_some h)
      exact r_sub [0] rfl (J75 a0 s5 h)
    · have h := Sat_neg c33 h
      refine r_aload_n dX6_readDigits_36 0 rfl ?_
      refine r_aload_n dX6_readDigits_37 0 rfl ?_
      obtain ⟨x38, e38, h⟩ := Sat_bind h
      refine r_getI fk_X6_57 rfl e38 dX6_readDigits_38 ?_
      refine r_bipush (v := 10) dX6_readDigits_41 (by decide) ?_
      refine r_imul dX6_readDigits_43 ?_
      refine r_aload_n dX6_readDigits_44 0 rfl ?_
      obtain ⟨x45, e45, h⟩ := Sat_bind h
      refine r_getP fk_X6_9 rfl e45 dX6_readDigits_45 ?_
      refine r_aload_n dX6_readDigits_48 0 rfl ?_
      obtain ⟨x49, e49, h⟩ := Sat_bind h
      refine r_getI fk_X6_15 rfl e49 dX6_readDigits_49 ?_
      obtain ⟨x52, e52, h⟩ := Sat_bind h
      refine r_cV (t := 6) [.int x49] [.int (x38 * (10 : Int32)), .ref a0] (m_X5_at x45 x49 s5 e52) ck_X5_at lk_X6_25 in_X5_at se_X5_at (kd_of e52) ⟨rfl, by decide, by decide⟩ rfl rfl (Nat.le_of_ble_eq_true rfl) ⟨by decide, by decide⟩ ⟨Nat.zero_le _, Nat.zero_le _⟩ dX6_readDigits_52 ?_
      refine r_iadd dX6_readDigits_55 ?_
      refine r_bipush (v := 48) dX6_readDigits_56 (by decide) ?_
      refine r_isub dX6_readDigits_58 ?_
      obtain ⟨μ59, e59, h⟩ := Sat_bind h
      refine r_putI fk_X6_57 rfl rfl e59 dX6_readDigits_59 ?_
      refine r_aload_n dX6_readDigits_62 0 rfl ?_
      refine r_dup dX6_readDigits_63 rfl ?_
      obtain ⟨x64, e64, h⟩ := Sat_bind h
      refine r_getI fk_X6_15 rfl e64 dX6_readDigits_64 ?_
      refine r_iconst (v := 1) dX6_readDigits_67 (by decide) ?_
      refine r_iadd dX6_readDigits_68 ?_
      obtain ⟨μ69, e69, h⟩ := Sat_bind h
      refine r_putI fk_X6_15 rfl rfl e69 dX6_readDigits_69 ?_
      refine r_goto 5 dX6_readDigits_72 (by decide) ?_
      exact r_sub [0] rfl (hI5 _ (Sat_some h))
theorem dX6_readWord_0 : decode cX6_readWord 0 = .ok (.aload_n 0, 1) := by decide +kernel
theorem dX6_readWord_1 : decode cX6_readWord 1 = .ok (.lconst 0, 1) := by decide +kernel
theorem dX6_readWord_2 : decode cX6_readWord 2 = .ok (.putfield 50, 3) := by decide +kernel
theorem dX6_readWord_5 : decode cX6_readWord 5 = .ok (.aload_n 0, 1) := by decide +kernel
theorem dX6_readWord_6 : decode cX6_readWord 6 = .ok (.getfield 15, 3) := by decide +kernel
theorem dX6_readWord_9 : decode cX6_readWord 9 = .ok (.aload_n 0, 1) := by decide +kernel
theorem dX6_readWord_10 : decode cX6_readWord 10 = .ok (.getfield 9, 3) := by decide +kernel
theorem dX6_readWord_13 : decode cX6_readWord 13 = .ok (.getfield 47, 3) := by decide +kernel
theorem dX6_readWord_16 : decode cX6_readWord 16 = .ok (.if_icmp .ge 61, 3) := by decide +kernel
theorem dX6_readWord_19 : decode cX6_readWord 19 = .ok (.aload_n 0, 1) := by decide +kernel
theorem dX6_readWord_20 : decode cX6_readWord 20 = .ok (.getfield 9, 3) := by decide +kernel
theorem dX6_readWord_23 : decode cX6_readWord 23 = .ok (.aload_n 0, 1) := by decide +kernel
theorem dX6_readWord_24 : decode cX6_readWord 24 = .ok (.getfield 15, 3) := by decide +kernel
theorem dX6_readWord_27 : decode cX6_readWord 27 = .ok (.invokevirtual 25, 3) := by decide +kernel
theorem dX6_readWord_30 : decode cX6_readWord 30 = .ok (.invokestatic 34, 3) := by decide +kernel
theorem dX6_readWord_33 : decode cX6_readWord 33 = .ok (.ifCond .eq 44, 3) := by decide +kernel
theorem dX6_readWord_36 : decode cX6_readWord 36 = .ok (.aload_n 0, 1) := by decide +kernel
theorem dX6_readWord_37 : decode cX6_readWord 37 = .ok (.aload_n 0, 1) := by decide +kernel
theorem dX6_readWord_38 : decode cX6_readWord 38 = .ok (.getfield 50, 3) := by decide +kernel
theorem dX6_readWord_41 : decode cX6_readWord 41 = .ok (.iconst 5, 1) := by decide +kernel
theorem dX6_readWord_42 : decode cX6_readWord 42 = .ok (.lshl, 1) := by decide +kernel
theorem dX6_readWord_43 : decode cX6_readWord 43 = .ok (.aload_n 0, 1) := by decide +kernel
theorem dX6_readWord_44 : decode cX6_readWord 44 = .ok (.getfield 9, 3) := by decide +kernel
theorem dX6_readWord_47 : decode cX6_readWord 47 = .ok (.aload_n 0, 1) := by decide +kernel
theorem dX6_readWord_48 : decode cX6_readWord 48 = .ok (.getfield 15, 3) := by decide +kernel
theorem dX6_readWord_51 : decode cX6_readWord 51 = .ok (.invokevirtual 25, 3) := by decide +kernel
theorem dX6_readWord_54 : decode cX6_readWord 54 = .ok (.bipush 97, 2) := by decide +kernel
theorem dX6_readWord_56 : decode cX6_readWord 56 = .ok (.isub, 1) := by decide +kernel
theorem dX6_readWord_57 : decode cX6_readWord 57 = .ok (.iconst 1, 1) := by decide +kernel
theorem dX6_readWord_58 : decode cX6_readWord 58 = .ok (.iadd, 1) := by decide +kernel
theorem dX6_readWord_59 : decode cX6_readWord 59 = .ok (.i2l, 1) := by decide +kernel
theorem dX6_readWord_60 : decode cX6_readWord 60 = .ok (.lor, 1) := by decide +kernel
theorem dX6_readWord_61 : decode cX6_readWord 61 = .ok (.putfield 50, 3) := by decide +kernel
theorem dX6_readWord_64 : decode cX6_readWord 64 = .ok (.aload_n 0, 1) := by decide +kernel
theorem dX6_readWord_65 : decode cX6_readWord 65 = .ok (.dup, 1) := by decide +kernel
theorem dX6_readWord_66 : decode cX6_readWord 66 = .ok (.getfield 15, 3) := by decide +kernel
theorem dX6_readWord_69 : decode cX6_readWord 69 = .ok (.iconst 1, 1) := by decide +kernel
theorem dX6_readWord_70 : decode cX6_readWord 70 = .ok (.iadd, 1) := by decide +kernel
theorem dX6_readWord_71 : decode cX6_readWord 71 = .ok (.putfield 15, 3) := by decide +kernel
theorem dX6_readWord_74 : decode cX6_readWord 74 = .ok (.goto (-69), 3) := by decide +kernel
theorem dX6_readWord_77 : decode cX6_readWord 77 = .ok (.aload_n 0, 1) := by decide +kernel
theorem dX6_readWord_78 : decode cX6_readWord 78 = .ok (.aload_n 0, 1) := by decide +kernel
theorem dX6_readWord_79 : decode cX6_readWord 79 = .ok (.getfield 15, 3) := by decide +kernel
theorem dX6_readWord_82 : decode cX6_readWord 82 = .ok (.aload_n 0, 1) := by decide +kernel
theorem dX6_readWord_83 : decode cX6_readWord 83 = .ok (.getfield 22, 3) := by decide +kernel
theorem dX6_readWord_86 : decode cX6_readWord 86 = .ok (.isub, 1) := by decide +kernel
theorem dX6_readWord_87 : decode cX6_readWord 87 = .ok (.putfield 54, 3) := by decide +kernel
theorem dX6_readWord_90 : decode cX6_readWord 90 = .ok (.aload_n 0, 1) := by decide +kernel
theorem dX6_readWord_91 : decode cX6_readWord 91 = .ok (.aload_n 0, 1) := by decide +kernel
theorem dX6_readWord_92 : decode cX6_readWord 92 = .ok (.getfield 54, 3) := by decide +kernel
theorem dX6_readWord_95 : decode cX6_readWord 95 = .ok (.bipush 8, 2) := by decide +kernel
theorem dX6_readWord_97 : decode cX6_readWord 97 = .ok (.if_icmp .gt 7, 3) := by decide +kernel
theorem dX6_readWord_100 : decode cX6_readWord 100 = .ok (.iconst 1, 1) := by decide +kernel
theorem dX6_readWord_101 : decode cX6_readWord 101 = .ok (.goto 4, 3) := by decide +kernel
theorem dX6_readWord_104 : decode cX6_readWord 104 = .ok (.iconst 4, 1) := by decide +kernel
theorem dX6_readWord_105 : decode cX6_readWord 105 = .ok (.putfield 31, 3) := by decide +kernel
theorem dX6_readWord_108 : decode cX6_readWord 108 = .ok (.return_, 1) := by decide +kernel
noncomputable def f_X6_readWord_J105  (k0 : Nat) (k1 : Int32) (μ : Mm) : Option Mm :=
  (pf_I 7 2 k0 k1 μ).bind fun μ105 => some μ105
noncomputable def f_X6_readWord_J77 (a0 : Nat) (μ : Mm) : Option Mm :=
  (gf_I 7 1 a0 μ).bind fun x79 => (gf_I 7 3 a0 μ).bind fun x83 => (pf_I 7 4 a0 (x79 - x83) μ).bind fun μ87 => (gf_I 7 4 a0 μ87).bind fun x92 => if (8 : Int32) < x92 then f_X6_readWord_J105 a0 (4 : Int32) μ87 else f_X6_readWord_J105 a0 (1 : Int32) μ87
noncomputable def f_X6_readWord_L5 (a0 : Nat) (s5 : Mm) : Option ((Mm) ⊕ (Mm)) :=
  (gf_I 7 1 a0 s5).bind fun x6 => (gf_P 7 0 a0 s5).bind fun x10 => (gf_I 6 1 x10 s5).bind fun x13 => if x13 ≤ x6 then some (.inr s5) else (gf_P 7 0 a0 s5).bind fun x20 => (gf_I 7 1 a0 s5).bind fun x24 => (f_X5_at x20 x24 s5).bind fun x27 => (f_X6_isLetter x27 s5).bind fun x30 => if x30 = 0 then some (.inr s5) else (gf_L 7 6 a0 s5).bind fun x38 => (gf_P 7 0 a0 s5).bind fun x44 => (gf_I 7 1 a0 s5).bind fun x48 => (f_X5_at x44 x48 s5).bind fun x51 => (pf_L 7 6 a0 ((x38 <<< ((5 : Int32).toInt64 &&& 63)) ||| (((x51 - (97 : Int32)) + (1 : Int32)).toInt64)) s5).bind fun μ61 => (gf_I 7 1 a0 μ61).bind fun x66 => (pf_I 7 1 a0 (x66 + (1 : Int32)) μ61).bind fun μ71 => some (.inl μ71)
noncomputable def f_X6_readWord (a0 : Nat) (μ : Mm) : Option Mm :=
  if (mm_K μ a0).1 = 7 then (pf_L 7 6 a0 (0 : Int64) μ).bind fun μ2 => (whl (f_X6_readWord_L5 a0) μ2).bind (fun b5 => f_X6_readWord_J77 a0 b5) else none
abbrev Rn_X6_readWord (G : Gv) (Q : Option Value → Mm → Prop) (pc : Nat) (lv : List (Nat × Value)) (st : List Value) (μ : Mm) : Prop := Rn G RX6 cX6_readWord 1 none "readWord" (rmd 1 0 0) (Zm G 0 0 Q) 0 0 pc lv st μ
set_option maxRecDepth 100000 in
set_option maxHeartbeats 4000000 in
theorem m_X6_readWord {G : Gv} (a0 : Nat) (μ : Mm) {r : Mm} (hx : f_X6_readWord a0 μ = some r) : Mt G yX6_readWord cX6_readWord 1 none 1 0 0 [.ref a0] μ (fun v μ' => v = none ∧ μ' = r) := by
  refine Mt.of (by decide) (Nat.le_of_ble_eq_true rfl) ?_
  show Rn_X6_readWord G (fun v μ' => v = none ∧ μ' = r) 0 [(0, .ref a0)] [] μ
  obtain ⟨_, h⟩ := Sat_ifp (show Sat (f_X6_readWord a0 μ) (fun x => x = r) from ⟨_, hx, rfl⟩)
  have J105 : ∀ (k0_105 : Nat) (k1_105 : Int32) (μ_105 : Mm), Sat (f_X6_readWord_J105 k0_105 k1_105 μ_105) (fun x => x = r) → Rn_X6_readWord G (fun v μ' => v = none ∧ μ' = r) 105 [] [.int k1_105, .ref k0_105] μ_105 := by
    intro k0_105 k1_105 μ_105 h
    obtain ⟨μ105, e105, h⟩ := Sat_bind h
    refine r_putI fk_X6_31 rfl rfl e105 dX6_readWord_105 ?_
    exact r_vreturn rfl (by rw [← Sat_eq h]; exact ⟨rfl, rfl⟩) dX6_readWord_108
  have J77 : ∀ (a0_77 : Nat) (μ_77 : Mm), Sat (f_X6_readWord_J77 a0_77 μ_77) (fun x => x = r) → Rn_X6_readWord G (fun v μ' => v = none ∧ μ' = r) 77 [(0, .ref a0_77)] [] μ_77 := by
    intro a0_77 μ_77 h
    refine r_aload_n dX6_readWord_77 0 rfl ?_
    refine r_aload_n dX6_readWord_78 0 rfl ?_
    obtain ⟨x79, e79, h⟩ := Sat_bind h
    refine r_getI fk_X6_15 rfl e79 dX6_readWord_79 ?_
    refine r_aload_n dX6_readWord_82 0 rfl ?_
    obtain ⟨x83, e83, h⟩ := Sat_bind h
    refine r_getI fk_X6_22 rfl e83 dX6_readWord_83 ?_
    refine r_isub dX6_readWord_86 ?_
    obtain ⟨μ87, e87, h⟩ := Sat_bind h
    refine r_putI fk_X6_54 rfl rfl e87 dX6_readWord_87 ?_
    refine r_aload_n dX6_readWord_90 0 rfl ?_
    refine r_aload_n dX6_readWord_91 0 rfl ?_
    obtain ⟨x92, e92, h⟩ := Sat_bind h
    refine r_getI fk_X6_54 rfl e92 dX6_readWord_92 ?_
    refine r_bipush (v := 8) dX6_readWord_95 (by decide) ?_
    refine r_icmp_gt 104 dX6_readWord_97 (by decide) (fun c97 => ?_) (fun c97 => ?_)
    · have h := Sat_pos c97 h
      refine r_iconst (v := 4) dX6_readWord_104 (by decide) ?_
      exact r_sub [] rfl (J105 a0_77 (4 : Int32) μ87 h)
    · have h := Sat_neg c97 h
      refine r_iconst (v := 1) dX6_readWord_100 (by decide) ?_
      refine r_goto 105 dX6_readWord_101 (by decide) ?_
      exact r_sub [] rfl (J105 a0_77 (1 : Int32) μ87 h)
  refine r_aload_n dX6_readWord_0 0 rfl ?_
  refine r_lconst (v := 0) dX6_readWord_1 (by decide) ?_
  obtain ⟨μ2, e2, h⟩ := Sat_bind h
  refine r_putL fk_X6_50 rfl rfl e2 dX6_readWord_2 ?_
  refine r_sub (lv' := [(0, .ref a0)]) [0] rfl ?_
  refine whl_K (s0 := (μ2 : Mm)) (RR := fun (s5 : Mm) => Rn_X6_readWord G (fun v μ' => v = none ∧ μ' = r) 5 [(0, .ref a0)] [] s5) ?_ (Sat_bindK h)
  intro s5 K5 hI5 hX5 h
  refine r_aload_n dX6_readWord_5 0 rfl ?_
  obtain ⟨x6, e6, h⟩ := Sat_bind h
  refine r_getI fk_X6_15 rfl e6 dX6_readWord_6 ?_
  refine r_aload_n dX6_readWord_9 0 rfl ?_
  obtain ⟨x10, e10, h⟩ := Sat_bind h
  refine r_getP fk_X6_9 rfl e10 dX6_readWord_10 ?_
  obtain ⟨x13, e13, h⟩ := Sat_bind h
  refine r_getI fk_X6_47 rfl e13 dX6_readWord_13 ?_
  refine r_icmp_ge 77 dX6_readWord_16 (by decide) (fun c16 => ?_) (fun c16 => ?_)
  · have h := Sat_pos c16 h
    have h := hX5 _ (Sat_some h)
    exact r_sub [0] rfl (J77 a0 s5 h)
  · have h := Sat_neg c16 h
    refine r_aload_n dX6_readWord_19 0 rfl ?_
    obtain ⟨x20, e20, h⟩ := Sat_bind h
    refine r_getP fk_X6_9 rfl e20 dX6_readWord_20 ?_
    refine r_aload_n dX6_readWord_23 0 rfl ?_
    obtain ⟨x24, e24, h⟩ := Sat_bind h
    refine r_getI fk_X6_15 rfl e24 dX6_readWord_24 ?_
    obtain ⟨x27, e27, h⟩ := Sat_bind h
    refine r_cV (t := 6) [.int x24] [] (m_X5_at x20 x24 s5 e27) ck_X5_at lk_X6_25 in_X5_at se_X5_at (kd_of e27) ⟨rfl, by decide, by decide⟩ rfl rfl (Nat.le_of_ble_eq_true rfl) ⟨by decide, by decide⟩ ⟨Nat.zero_le _, Nat.zero_le _⟩ dX6_readWord_27 ?_
    obtain ⟨x30, e30, h⟩ := Sat_bind h
    refine r_cS [.int x27] [] (m_X6_isLetter x27 s5 e30) ck_X6_isLetter lk_X6_34 st_X6_isLetter rfl rfl (Nat.le_of_ble_eq_true rfl) ⟨by decide, by decide⟩ ⟨Nat.zero_le _, Nat.zero_le _⟩ dX6_readWord_30 ?_
    refine r_if_eq 77 dX6_readWord_33 (by decide) (fun c33 => ?_) (fun c33 => ?_)
    · have h := Sat_pos c33 h
      have h := hX5 _ (Sat_some h)
      exact r_sub [0] rfl (J77 a0 s5 h)
    · have h := Sat_neg c33 h
      refine r_aload_n dX6_readWord_36 0 rfl ?_
      refine r_aload_n dX6_readWord_37 0 rfl ?_
      obtain ⟨x38, e38, h⟩ := Sat_bind h
      refine r_getL fk_X6_50 rfl e38 dX6_readWord_38 ?_
      refine r_iconst (v := 5) dX6_readWord_41 (by decide) ?_
      refine r_lshl dX6_readWord_42 ?_
      refine r_aload_n dX6_readWord_43 0 rfl ?_
      obtain ⟨x44, e44, h⟩ := Sat_bind h
      refine r_getP fk_X6_9 rfl e44 dX6_readWord_44 ?_
      refine r_aload_n dX6_readWord_47 0 rfl ?_
      obtain ⟨x48, e48, h⟩ := Sat_bind h
      refine r_getI fk_X6_15 rfl e48 dX6_readWord_48 ?_
      obtain ⟨x51, e51, h⟩ := Sat_bind h
      refine r_cV (t := 6) [.int x48] [.long (x38 <<< ((5 : Int32).toInt64 &&& 63)), .ref a0] (m_X5_at x44 x48 s5 e51) ck_X5_at lk_X6_25 in_X5_at se_X5_at (kd_of e51) ⟨rfl, by decide, by decide⟩ rfl rfl (Nat.le_of_ble_eq_true rfl) ⟨by decide, by decide⟩ ⟨Nat.zero_le _, Nat.zero_le _⟩ dX6_readWord_51 ?_
      refine r_bipush (v := 97) dX6_readWord_54 (by decide) ?_
      refine r_isub dX6_readWord_56 ?_
      refine r_iconst (v := 1) dX6_readWord_57 (by decide) ?_
      refine r_iadd dX6_readWord_58 ?_
      refine r_i2l dX6_readWord_59 ?_
      refine r_lor dX6_readWord_60 ?_
      obtain ⟨μ61, e61, h⟩ := Sat_bind h
      refine r_putL fk_X6_50 rfl rfl e61 dX6_readWord_61 ?_
      refine r_aload_n dX6_readWord_64 0 rfl ?_
      refine r_dup dX6_readWord_65 rfl ?_
      obtain ⟨x66, e66, h⟩ := Sat_bind h
      refine r_getI fk_X6_15 rfl e66 dX6_readWord_66 ?_
      refine r_iconst (v := 1) dX6_readWord_69 (by decide) ?_
      refine r_iadd dX6_readWord_70 ?_
      obtain ⟨μ71, e71, h⟩ := Sat_bind h
      refine r_putI fk_X6_15 rfl rfl e71 dX6_readWord_71 ?_
      refine r_goto 5 dX6_readWord_74 (by decide) ?_
      exact r_sub [0] rfl (hI5 _ (Sat_some h))
theorem dX6_skipBlanks_0 : decode cX6_skipBlanks 0 = .ok (.aload_n 0, 1) := by decide +kernel
theorem dX6_skipBlanks_1 : decode cX6_skipBlanks 1 = .ok (.getfield 15, 3) := by decide +kernel
theorem dX6_skipBlanks_4 : decode cX6_skipBlanks 4 = .ok (.aload_n 0, 1) := by decide +kernel
theorem dX6_skipBlanks_5 : decode cX6_skipBlanks 5 = .ok (.getfield 9, 3) := by decide +kernel
theorem dX6_skipBlanks_8 : decode cX6_skipBlanks 8 = .ok (.getfield 47, 3) := by decide +kernel
theorem dX6_skipBlanks_11 : decode cX6_skipBlanks 11 = .ok (.if_icmp .ge 48, 3) := by decide +kernel
theorem dX6_skipBlanks_14 : decode cX6_skipBlanks 14 = .ok (.aload_n 0, 1) := by decide +kernel
theorem dX6_skipBlanks_15 : decode cX6_skipBlanks 15 = .ok (.getfield 9, 3) := by decide +kernel
theorem dX6_skipBlanks_18 : decode cX6_skipBlanks 18 = .ok (.aload_n 0, 1) := by decide +kernel
theorem dX6_skipBlanks_19 : decode cX6_skipBlanks 19 = .ok (.getfield 15, 3) := by decide +kernel
theorem dX6_skipBlanks_22 : decode cX6_skipBlanks 22 = .ok (.invokevirtual 25, 3) := by decide +kernel
theorem dX6_skipBlanks_25 : decode cX6_skipBlanks 25 = .ok (.bipush 32, 2) := by decide +kernel
theorem dX6_skipBlanks_27 : decode cX6_skipBlanks 27 = .ok (.if_icmp .eq 19, 3) := by decide +kernel
theorem dX6_skipBlanks_30 : decode cX6_skipBlanks 30 = .ok (.aload_n 0, 1) := by decide +kernel
theorem dX6_skipBlanks_31 : decode cX6_skipBlanks 31 = .ok (.getfield 9, 3) := by decide +kernel
theorem dX6_skipBlanks_34 : decode cX6_skipBlanks 34 = .ok (.aload_n 0, 1) := by decide +kernel
theorem dX6_skipBlanks_35 : decode cX6_skipBlanks 35 = .ok (.getfield 15, 3) := by decide +kernel
theorem dX6_skipBlanks_38 : decode cX6_skipBlanks 38 = .ok (.invokevirtual 25, 3) := by decide +kernel
theorem dX6_skipBlanks_41 : decode cX6_skipBlanks 41 = .ok (.bipush 10, 2) := by decide +kernel
theorem dX6_skipBlanks_43 : decode cX6_skipBlanks 43 = .ok (.if_icmp .ne 16, 3) := by decide +kernel
theorem dX6_skipBlanks_46 : decode cX6_skipBlanks 46 = .ok (.aload_n 0, 1) := by decide +kernel
theorem dX6_skipBlanks_47 : decode cX6_skipBlanks 47 = .ok (.dup, 1) := by decide +kernel
theorem dX6_skipBlanks_48 : decode cX6_skipBlanks 48 = .ok (.getfield 15, 3) := by decide +kernel
theorem dX6_skipBlanks_51 : decode cX6_skipBlanks 51 = .ok (.iconst 1, 1) := by decide +kernel
theorem dX6_skipBlanks_52 : decode cX6_skipBlanks 52 = .ok (.iadd, 1) := by decide +kernel
theorem dX6_skipBlanks_53 : decode cX6_skipBlanks 53 = .ok (.putfield 15, 3) := by decide +kernel
theorem dX6_skipBlanks_56 : decode cX6_skipBlanks 56 = .ok (.goto (-56), 3) := by decide +kernel
theorem dX6_skipBlanks_59 : decode cX6_skipBlanks 59 = .ok (.return_, 1) := by decide +kernel
noncomputable def f_X6_skipBlanks_J46 (a0 : Nat) (μ : Mm) : Option ((Mm) ⊕ (Mm)) :=
  (gf_I 7 1 a0 μ).bind fun x48 => (pf_I 7 1 a0 (x48 + (1 : Int32)) μ).bind fun μ53 => some (.inl μ53)
noncomputable def f_X6_skipBlanks_L0 (a0 : Nat) (s0 : Mm) : Option ((Mm) ⊕ (Mm)) :=
  (gf_I 7 1 a0 s0).bind fun x1 => (gf_P 7 0 a0 s0).bind fun x5 => (gf_I 6 1 x5 s0).bind fun x8 => if x8 ≤ x1 then some (.inr s0) else (gf_P 7 0 a0 s0).bind fun x15 => (gf_I 7 1 a0 s0).bind fun x19 => (f_X5_at x15 x19 s0).bind fun x22 => if x22 = (32 : Int32) then f_X6_skipBlanks_J46 a0 s0 else (gf_P 7 0 a0 s0).bind fun x31 => (gf_I 7 1 a0 s0).bind fun x35 => (f_X5_at x31 x35 s0).bind fun x38 => if x38 = (10 : Int32) then f_X6_skipBlanks_J46 a0 s0 else some (.inr s0)
noncomputable def f_X6_skipBlanks (a0 : Nat) (μ : Mm) : Option Mm :=
  if (mm_K μ a0).1 = 7 then (whl (f_X6_skipBlanks_L0 a0) μ).bind (fun b0 => some b0) else none
abbrev Rn_X6_skipBlanks (G : Gv) (Q : Option Value → Mm → Prop) (pc : Nat) (lv : List (Nat × Value)) (st : List Value) (μ : Mm) : Prop := Rn G RX6 cX6_skipBlanks 1 none "skipBlanks" (rmd 1 0 0) (Zm G 0 0 Q) 0 0 pc lv st μ
set_option maxRecDepth 100000 in
set_option maxHeartbeats 4000000 in
theorem m_X6_skipBlanks {G : Gv} (a0 : Nat) (μ : Mm) {r : Mm} (hx : f_X6_skipBlanks a0 μ = some r) : Mt G yX6_skipBlanks cX6_skipBlanks 1 none 1 0 0 [.ref a0] μ (fun v μ' => v = none ∧ μ' = r) := by
  refine Mt.of (by decide) (Nat.le_of_ble_eq_true rfl) ?_
  show Rn_X6_skipBlanks G (fun v μ' => v = none ∧ μ' = r) 0 [(0, .ref a0)] [] μ
  obtain ⟨_, h⟩ := Sat_ifp (show Sat (f_X6_skipBlanks a0 μ) (fun x => x = r) from ⟨_, hx, rfl⟩)
  refine r_sub (lv' := [(0, .ref a0)]) [0] rfl ?_
  refine whl_K (s0 := (μ : Mm)) (RR := fun (s0 : Mm) => Rn_X6_skipBlanks G (fun v μ' => v = none ∧ μ' = r) 0 [(0, .ref a0)] [] s0) ?_ (Sat_bindK h)
  intro s0 K0 hI0 hX0 h
  have J46 : ∀ (μ_46 : Mm), Sat (f_X6_skipBlanks_J46 a0 μ_46) K0 → Rn_X6_skipBlanks G (fun v μ' => v = none ∧ μ' = r) 46 [(0, .ref a0)] [] μ_46 := by
    intro μ_46 h
    refine r_aload_n dX6_skipBlanks_46 0 rfl ?_
    refine r_dup dX6_skipBlanks_47 rfl ?_
    obtain ⟨x48, e48, h⟩ := Sat_bind h
    refine r_getI fk_X6_15 rfl e48 dX6_skipBlanks_48 ?_
    refine r_iconst (v := 1) dX6_skipBlanks_51 (by decide) ?_
    refine r_iadd dX6_skipBlanks_52 ?_
    obtain ⟨μ53, e53, h⟩ := Sat_bind h
    refine r_putI fk_X6_15 rfl rfl e53 dX6_skipBlanks_53 ?_
    refine r_goto 0 dX6_skipBlanks_56 (by decide) ?_
    exact r_sub [0] rfl (hI0 _ (Sat_some h))
  refine r_aload_n dX6_skipBlanks_0 0 rfl ?_
  obtain ⟨x1, e1, h⟩ := Sat_bind h
  refine r_getI fk_X6_15 rfl e1 dX6_skipBlanks_1 ?_
  refine r_aload_n dX6_skipBlanks_4 0 rfl ?_
  obtain ⟨x5, e5, h⟩ := Sat_bind h
  refine r_getP fk_X6_9 rfl e5 dX6_skipBlanks_5 ?_
  obtain ⟨x8, e8, h⟩ := Sat_bind h
  refine r_getI fk_X6_47 rfl e8 dX6_skipBlanks_8 ?_
  refine r_icmp_ge 59 dX6_skipBlanks_11 (by decide) (fun c11 => ?_) (fun c11 => ?_)
  · have h := Sat_pos c11 h
    have h := hX0 _ (Sat_some h)
    exact r_vreturn rfl (by rw [← Sat_eq h]; exact ⟨rfl, rfl⟩) dX6_skipBlanks_59
  · have h := Sat_neg c11 h
    refine r_aload_n dX6_skipBlanks_14 0 rfl ?_
    obtain ⟨x15, e15, h⟩ := Sat_bind h
    refine r_getP fk_X6_9 rfl e15 dX6_skipBlanks_15 ?_
    refine r_aload_n dX6_skipBlanks_18 0 rfl ?_
    obtain ⟨x19, e19, h⟩ := Sat_bind h
    refine r_getI fk_X6_15 rfl e19 dX6_skipBlanks_19 ?_
    obtain ⟨x22, e22, h⟩ := Sat_bind h
    refine r_cV (t := 6) [.int x19] [] (m_X5_at x15 x19 s0 e22) ck_X5_at lk_X6_25 in_X5_at se_X5_at (kd_of e22) ⟨rfl, by decide, by decide⟩ rfl rfl (Nat.le_of_ble_eq_true rfl) ⟨by decide, by decide⟩ ⟨Nat.zero_le _, Nat.zero_le _⟩ dX6_skipBlanks_22 ?_
    refine r_bipush (v := 32) dX6_skipBlanks_25 (by decide) ?_
    refine r_icmp_eq 46 dX6_skipBlanks_27 (by decide) (fun c27 => ?_) (fun c27 => ?_)
    · have h := Sat_pos c27 h
      exact r_sub [0] rfl (J46 s0 h)
    · have h := Sat_neg c27 h
      refine r_aload_n dX6_skipBlanks_30 0 rfl ?_
      obtain ⟨x31, e31, h⟩ := Sat_bind h
      refine r_getP fk_X6_9 rfl e31 dX6_skipBlanks_31 ?_
      refine r_aload_n dX6_skipBlanks_34 0 rfl ?_
      obtain ⟨x35, e35, h⟩ := Sat_bind h
      refine r_getI fk_X6_15 rfl e35 dX6_skipBlanks_35 ?_
      obtain ⟨x38, e38, h⟩ := Sat_bind h
      refine r_cV (t := 6) [.int x35] [] (m_X5_at x31 x35 s0 e38) ck_X5_at lk_X6_25 in_X5_at se_X5_at (kd_of e38) ⟨rfl, by decide, by decide⟩ rfl rfl (Nat.le_of_ble_eq_true rfl) ⟨by decide, by decide⟩ ⟨Nat.zero_le _, Nat.zero_le _⟩ dX6_skipBlanks_38 ?_
      refine r_bipush (v := 10) dX6_skipBlanks_41 (by decide) ?_
      refine r_icmp_ne 59 dX6_skipBlanks_43 (by decide) (fun c43 => ?_) (fun c43 => ?_)
      · have h := Sat_neg c43 h
        have h := hX0 _ (Sat_some h)
        exact r_vreturn rfl (by rw [← Sat_eq h]; exact ⟨rfl, rfl⟩) dX6_skipBlanks_59
      · have h := Sat_pos c43 h
        exact r_sub [0] rfl (J46 s0 h)
theorem dX6_advance_0 : decode cX6_advance 0 = .ok (.aload_n 0, 1) := by decide +kernel
theorem dX6_advance_1 : decode cX6_advance 1 = .ok (.invokevirtual 19, 3) := by decide +kernel
theorem dX6_advance_4 : decode cX6_advance 4 = .ok (.aload_n 0, 1) := by decide +kernel
theorem dX6_advance_5 : decode cX6_advance 5 = .ok (.aload_n 0, 1) := by decide +kernel
theorem dX6_advance_6 : decode cX6_advance 6 = .ok (.getfield 15, 3) := by decide +kernel
theorem dX6_advance_9 : decode cX6_advance 9 = .ok (.putfield 22, 3) := by decide +kernel
theorem dX6_advance_12 : decode cX6_advance 12 = .ok (.aload_n 0, 1) := by decide +kernel
theorem dX6_advance_13 : decode cX6_advance 13 = .ok (.getfield 9, 3) := by decide +kernel
theorem dX6_advance_16 : decode cX6_advance 16 = .ok (.aload_n 0, 1) := by decide +kernel
theorem dX6_advance_17 : decode cX6_advance 17 = .ok (.getfield 22, 3) := by decide +kernel
theorem dX6_advance_20 : decode cX6_advance 20 = .ok (.invokevirtual 25, 3) := by decide +kernel
theorem dX6_advance_23 : decode cX6_advance 23 = .ok (.istore_n 1, 1) := by decide +kernel
theorem dX6_advance_24 : decode cX6_advance 24 = .ok (.iload_n 1, 1) := by decide +kernel
theorem dX6_advance_25 : decode cX6_advance 25 = .ok (.iconst (-1), 1) := by decide +kernel
theorem dX6_advance_26 : decode cX6_advance 26 = .ok (.if_icmp .ne 11, 3) := by decide +kernel
theorem dX6_advance_29 : decode cX6_advance 29 = .ok (.aload_n 0, 1) := by decide +kernel
theorem dX6_advance_30 : decode cX6_advance 30 = .ok (.iconst 0, 1) := by decide +kernel
theorem dX6_advance_31 : decode cX6_advance 31 = .ok (.putfield 31, 3) := by decide +kernel
theorem dX6_advance_34 : decode cX6_advance 34 = .ok (.goto 56, 3) := by decide +kernel
theorem dX6_advance_37 : decode cX6_advance 37 = .ok (.iload_n 1, 1) := by decide +kernel
theorem dX6_advance_38 : decode cX6_advance 38 = .ok (.invokestatic 34, 3) := by decide +kernel
theorem dX6_advance_41 : decode cX6_advance 41 = .ok (.ifCond .eq 10, 3) := by decide +kernel
theorem dX6_advance_44 : decode cX6_advance 44 = .ok (.aload_n 0, 1) := by decide +kernel
theorem dX6_advance_45 : decode cX6_advance 45 = .ok (.invokevirtual 38, 3) := by decide +kernel
theorem dX6_advance_48 : decode cX6_advance 48 = .ok (.goto 42, 3) := by decide +kernel
theorem dX6_advance_51 : decode cX6_advance 51 = .ok (.iload_n 1, 1) := by decide +kernel
theorem dX6_advance_52 : decode cX6_advance 52 = .ok (.invokestatic 41, 3) := by decide +kernel
theorem dX6_advance_55 : decode cX6_advance 55 = .ok (.ifCond .eq 10, 3) := by decide +kernel
theorem dX6_advance_58 : decode cX6_advance 58 = .ok (.aload_n 0, 1) := by decide +kernel
theorem dX6_advance_59 : decode cX6_advance 59 = .ok (.invokevirtual 44, 3) := by decide +kernel
theorem dX6_advance_62 : decode cX6_advance 62 = .ok (.goto 28, 3) := by decide +kernel
theorem dX6_advance_65 : decode cX6_advance 65 = .ok (.aload_n 0, 1) := by decide +kernel
theorem dX6_advance_66 : decode cX6_advance 66 = .ok (.iload_n 1, 1) := by decide +kernel
theorem dX6_advance_67 : decode cX6_advance 67 = .ok (.bipush 59, 2) := by decide +kernel
theorem dX6_advance_69 : decode cX6_advance 69 = .ok (.if_icmp .ne 7, 3) := by decide +kernel
theorem dX6_advance_72 : decode cX6_advance 72 = .ok (.iconst 3, 1) := by decide +kernel
theorem dX6_advance_73 : decode cX6_advance 73 = .ok (.goto 4, 3) := by decide +kernel
theorem dX6_advance_76 : decode cX6_advance 76 = .ok (.iconst 4, 1) := by decide +kernel
theorem dX6_advance_77 : decode cX6_advance 77 = .ok (.putfield 31, 3) := by decide +kernel
theorem dX6_advance_80 : decode cX6_advance 80 = .ok (.aload_n 0, 1) := by decide +kernel
theorem dX6_advance_81 : decode cX6_advance 81 = .ok (.aload_n 0, 1) := by decide +kernel
theorem dX6_advance_82 : decode cX6_advance 82 = .ok (.getfield 22, 3) := by decide +kernel
theorem dX6_advance_85 : decode cX6_advance 85 = .ok (.iconst 1, 1) := by decide +kernel
theorem dX6_advance_86 : decode cX6_advance 86 = .ok (.iadd, 1) := by decide +kernel
theorem dX6_advance_87 : decode cX6_advance 87 = .ok (.putfield 15, 3) := by decide +kernel
theorem dX6_advance_90 : decode cX6_advance 90 = .ok (.return_, 1) := by decide +kernel
noncomputable def f_X6_advance_J77 (a0 : Nat) (k0 : Nat) (k1 : Int32) (μ : Mm) : Option Mm :=
  (pf_I 7 2 k0 k1 μ).bind fun μ77 => (gf_I 7 3 a0 μ77).bind fun x82 => (pf_I 7 1 a0 (x82 + (1 : Int32)) μ77).bind fun μ87 => some μ87
noncomputable def f_X6_advance (a0 : Nat) (μ : Mm) : Option Mm :=
  if (mm_K μ a0).1 = 7 then (f_X6_skipBlanks a0 μ).bind fun x1 => (gf_I 7 1 a0 x1).bind fun x6 => (pf_I 7 3 a0 x6 x1).bind fun μ9 => (gf_P 7 0 a0 μ9).bind fun x13 => (gf_I 7 3 a0 μ9).bind fun x17 => (f_X5_at x13 x17 μ9).bind fun x20 => if x20 = (-1 : Int32) then (pf_I 7 2 a0 (0 : Int32) μ9).bind fun μ31 => some μ31 else (f_X6_isLetter x20 μ9).bind fun x38 => if x38 = 0 then (f_X6_isDigit x20 μ9).bind fun x52 => if x52 = 0 then if x20 = (59 : Int32) then f_X6_advance_J77 a0 a0 (3 : Int32) μ9 else f_X6_advance_J77 a0 a0 (4 : Int32) μ9 else (f_X6_readDigits a0 μ9).bind fun x59 => some x59 else (f_X6_readWord a0 μ9).bind fun x45 => some x45 else none
abbrev Rn_X6_advance (G : Gv) (Q : Option Value → Mm → Prop) (pc : Nat) (lv : List (Nat × Value)) (st : List Value) (μ : Mm) : Prop := Rn G RX6 cX6_advance 2 none "advance" (rmd 2 0 0) (Zm G 0 0 Q) 0 0 pc lv st μ
set_option maxRecDepth 100000 in
set_option maxHeartbeats 4000000 in
theorem m_X6_advance {G : Gv} (a0 : Nat) (μ : Mm) {r : Mm} (hx : f_X6_advance a0 μ = some r) : Mt G yX6_advance cX6_advance 2 none 2 0 0 [.ref a0] μ (fun v μ' => v = none ∧ μ' = r) := by
  refine Mt.of (by decide) (Nat.le_of_ble_eq_true rfl) ?_
  show Rn_X6_advance G (fun v μ' => v = none ∧ μ' = r) 0 [(0, .ref a0)] [] μ
  obtain ⟨_, h⟩ := Sat_ifp (show Sat (f_X6_advance a0 μ) (fun x => x = r) from ⟨_, hx, rfl⟩)
  have J77 : ∀ (a0_77 : Nat) (k0_77 : Nat) (k1_77 : Int32) (μ_77 : Mm), Sat (f_X6_advance_J77 a0_77 k0_77 k1_77 μ_77) (fun x => x = r) → Rn_X6_advance G (fun v μ' => v = none ∧ μ' = r) 77 [(0, .ref a0_77)] [.int k1_77, .ref k0_77] μ_77 := by
    intro a0_77 k0_77 k1_77 μ_77 h
    obtain ⟨μ77, e77, h⟩ := Sat_bind h
    refine r_putI fk_X6_31 rfl rfl e77 dX6_advance_77 ?_
    refine r_aload_n dX6_advance_80 0 rfl ?_
    refine r_aload_n dX6_advance_81 0 rfl ?_
    obtain ⟨x82, e82, h⟩ := Sat_bind h
    refine r_getI fk_X6_22 rfl e82 dX6_advance_82 ?_
    refine r_iconst (v := 1) dX6_advance_85 (by decide) ?_
    refine r_iadd dX6_advance_86 ?_
    obtain ⟨μ87, e87, h⟩ := Sat_bind h
    refine r_putI fk_X6_15 rfl rfl e87 dX6_advance_87 ?_
    exact r_vreturn rfl (by rw [← Sat_eq h]; exact ⟨rfl, rfl⟩) dX6_advance_90
  refine r_aload_n dX6_advance_0 0 rfl ?_
  obtain ⟨x1, e1, h⟩ := Sat_bind h
  refine r_cV (t := 7) [] [] (m_X6_skipBlanks a0 μ e1) ck_X6_skipBlanks lk_X6_19 in_X6_skipBlanks se_X6_skipBlanks (kd_of e1) ⟨rfl, by decide, by decide⟩ rfl rfl (Nat.le_of_ble_eq_true rfl) ⟨by decide, by decide⟩ ⟨Nat.zero_le _, Nat.zero_le _⟩ dX6_advance_1 ?_
  refine r_aload_n dX6_advance_4 0 rfl ?_
  refine r_aload_n dX6_advance_5 0 rfl ?_
  obtain ⟨x6, e6, h⟩ := Sat_bind h
  refine r_getI fk_X6_15 rfl e6 dX6_advance_6 ?_
  obtain ⟨μ9, e9, h⟩ := Sat_bind h
  refine r_putI fk_X6_22 rfl rfl e9 dX6_advance_9 ?_
  refine r_aload_n dX6_advance_12 0 rfl ?_
  obtain ⟨x13, e13, h⟩ := Sat_bind h
  refine r_getP fk_X6_9 rfl e13 dX6_advance_13 ?_
  refine r_aload_n dX6_advance_16 0 rfl ?_
  obtain ⟨x17, e17, h⟩ := Sat_bind h
  refine r_getI fk_X6_22 rfl e17 dX6_advance_17 ?_
  obtain ⟨x20, e20, h⟩ := Sat_bind h
  refine r_cV (t := 6) [.int x17] [] (m_X5_at x13 x17 μ9 e20) ck_X5_at lk_X6_25 in_X5_at se_X5_at (kd_of e20) ⟨rfl, by decide, by decide⟩ rfl rfl (Nat.le_of_ble_eq_true rfl) ⟨by decide, by decide⟩ ⟨Nat.zero_le _, Nat.zero_le _⟩ dX6_advance_20 ?_
  refine r_istore_n (lv' := [(1, .int x20), (0, .ref a0)]) dX6_advance_23 rfl (by decide) rfl ?_
  refine r_iload_n dX6_advance_24 0 rfl ?_
  refine r_iconst (v := -1) dX6_advance_25 (by decide) ?_
  refine r_icmp_ne 37 dX6_advance_26 (by decide) (fun c26 => ?_) (fun c26 => ?_)
  · have h := Sat_neg c26 h
    refine r_iload_n dX6_advance_37 0 rfl ?_
    obtain ⟨x38, e38, h⟩ := Sat_bind h
    refine r_cS [.int x20] [] (m_X6_isLetter x20 μ9 e38) ck_X6_isLetter lk_X6_34 st_X6_isLetter rfl rfl (Nat.le_of_ble_eq_true rfl) ⟨by decide, by decide⟩ ⟨Nat.zero_le _, Nat.zero_le _⟩ dX6_advance_38 ?_
    refine r_if_eq 51 dX6_advance_41 (by decide) (fun c41 => ?_) (fun c41 => ?_)
    · have h := Sat_pos c41 h
      refine r_iload_n dX6_advance_51 0 rfl ?_
      obtain ⟨x52, e52, h⟩ := Sat_bind h
      refine r_cS [.int x20] [] (m_X6_isDigit x20 μ9 e52) ck_X6_isDigit lk_X6_41 st_X6_isDigit rfl rfl (Nat.le_of_ble_eq_true rfl) ⟨by decide, by decide⟩ ⟨Nat.zero_le _, Nat.zero_le _⟩ dX6_advance_52 ?_
      refine r_if_eq 65 dX6_advance_55 (by decide) (fun c55 => ?_) (fun c55 => ?_)
      · have h := Sat_pos c55 h
        refine r_aload_n dX6_advance_65 1 rfl ?_
        refine r_iload_n dX6_advance_66 0 rfl ?_
        refine r_bipush (v := 59) dX6_advance_67 (by decide) ?_
        refine r_icmp_ne 76 dX6_advance_69 (by decide) (fun c69 => ?_) (fun c69 => ?_)
        · have h := Sat_neg c69 h
          refine r_iconst (v := 4) dX6_advance_76 (by decide) ?_
          exact r_sub [1] rfl (J77 a0 a0 (4 : Int32) μ9 h)
        · have h := Sat_pos c69 h
          refine r_iconst (v := 3) dX6_advance_72 (by decide) ?_
          refine r_goto 77 dX6_advance_73 (by decide) ?_
          exact r_sub [1] rfl (J77 a0 a0 (3 : Int32) μ9 h)
      · have h := Sat_neg c55 h
        refine r_aload_n dX6_advance_58 1 rfl ?_
        obtain ⟨x59, e59, h⟩ := Sat_bind h
        refine r_cV (t := 7) [] [] (m_X6_readDigits a0 μ9 e59) ck_X6_readDigits lk_X6_44 in_X6_readDigits se_X6_readDigits (kd_of e59) ⟨rfl, by decide, by decide⟩ rfl rfl (Nat.le_of_ble_eq_true rfl) ⟨by decide, by decide⟩ ⟨Nat.zero_le _, Nat.zero_le _⟩ dX6_advance_59 ?_
        refine r_goto 90 dX6_advance_62 (by decide) ?_
        exact r_vreturn rfl (by rw [← Sat_eq h]; exact ⟨rfl, rfl⟩) dX6_advance_90
    · have h := Sat_neg c41 h
      refine r_aload_n dX6_advance_44 1 rfl ?_
      obtain ⟨x45, e45, h⟩ := Sat_bind h
      refine r_cV (t := 7) [] [] (m_X6_readWord a0 μ9 e45) ck_X6_readWord lk_X6_38 in_X6_readWord se_X6_readWord (kd_of e45) ⟨rfl, by decide, by decide⟩ rfl rfl (Nat.le_of_ble_eq_true rfl) ⟨by decide, by decide⟩ ⟨Nat.zero_le _, Nat.zero_le _⟩ dX6_advance_45 ?_
      refine r_goto 90 dX6_advance_48 (by decide) ?_
      exact r_vreturn rfl (by rw [← Sat_eq h]; exact ⟨rfl, rfl⟩) dX6_advance_90
  · have h := Sat_pos c26 h
    refine r_aload_n dX6_advance_29 1 rfl ?_
    refine r_iconst (v := 0) dX6_advance_30 (by decide) ?_
    obtain ⟨μ31, e31, h⟩ := Sat_bind h
    refine r_putI fk_X6_31 rfl rfl e31 dX6_advance_31 ?_
    refine r_goto 90 dX6_advance_34 (by decide) ?_
    exact r_vreturn rfl (by rw [← Sat_eq h]; exact ⟨rfl, rfl⟩) dX6_advance_90
