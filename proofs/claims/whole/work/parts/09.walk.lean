theorem dX2_at_0 : decode cX2_at 0 = .ok (.iload_n 1, 1) := by decide +kernel
theorem dX2_at_1 : decode cX2_at 1 = .ok (.ifCond .lt 20, 3) := by decide +kernel
theorem dX2_at_4 : decode cX2_at 4 = .ok (.iload_n 1, 1) := by decide +kernel
theorem dX2_at_5 : decode cX2_at 5 = .ok (.aload_n 0, 1) := by decide +kernel
theorem dX2_at_6 : decode cX2_at 6 = .ok (.getfield 21, 3) := by decide +kernel
theorem dX2_at_9 : decode cX2_at 9 = .ok (.if_icmp .ge 12, 3) := by decide +kernel
theorem dX2_at_12 : decode cX2_at 12 = .ok (.iload_n 2, 1) := by decide +kernel
theorem dX2_at_13 : decode cX2_at 13 = .ok (.ifCond .lt 8, 3) := by decide +kernel
theorem dX2_at_16 : decode cX2_at 16 = .ok (.iload_n 2, 1) := by decide +kernel
theorem dX2_at_17 : decode cX2_at 17 = .ok (.iconst 4, 1) := by decide +kernel
theorem dX2_at_18 : decode cX2_at 18 = .ok (.if_icmp .lt 5, 3) := by decide +kernel
theorem dX2_at_21 : decode cX2_at 21 = .ok (.iconst (-1), 1) := by decide +kernel
theorem dX2_at_22 : decode cX2_at 22 = .ok (.ireturn, 1) := by decide +kernel
theorem dX2_at_23 : decode cX2_at 23 = .ok (.aload_n 0, 1) := by decide +kernel
theorem dX2_at_24 : decode cX2_at 24 = .ok (.getfield 17, 3) := by decide +kernel
theorem dX2_at_27 : decode cX2_at 27 = .ok (.iload_n 1, 1) := by decide +kernel
theorem dX2_at_28 : decode cX2_at 28 = .ok (.iconst 4, 1) := by decide +kernel
theorem dX2_at_29 : decode cX2_at 29 = .ok (.imul, 1) := by decide +kernel
theorem dX2_at_30 : decode cX2_at 30 = .ok (.iload_n 2, 1) := by decide +kernel
theorem dX2_at_31 : decode cX2_at 31 = .ok (.iadd, 1) := by decide +kernel
theorem dX2_at_32 : decode cX2_at 32 = .ok (.iaload, 1) := by decide +kernel
theorem dX2_at_33 : decode cX2_at 33 = .ok (.ireturn, 1) := by decide +kernel
noncomputable def f_X2_at (a0 : Nat) (l1 : Int32) (l2 : Int32) (μ : Mm) : Option Int32 :=
  if (mm_K μ a0).1 = 3 then if l1 < 0 then some (-1 : Int32) else (gf_I 3 1 a0 μ).bind fun x6 => if x6 ≤ l1 then some (-1 : Int32) else if l2 < 0 then some (-1 : Int32) else if l2 < (4 : Int32) then (gf_P 3 0 a0 μ).bind fun x24 => (ga_I x24 ((l1 * (4 : Int32)) + l2) μ).bind fun x32 => some x32 else some (-1 : Int32) else none
abbrev Rn_X2_at (G : Gv) (Q : Option Value → Mm → Prop) (pc : Nat) (lv : List (Nat × Value)) (st : List Value) (μ : Mm) : Prop := Rn G RX2 cX2_at 3 (some .int) "at" (rmd 0 0 0) (Zm G 0 0 Q) 0 0 pc lv st μ
set_option maxRecDepth 100000 in
set_option maxHeartbeats 4000000 in
theorem m_X2_at {G : Gv} (a0 : Nat) (l1 : Int32) (l2 : Int32) (μ : Mm) {r : Int32} (hx : f_X2_at a0 l1 l2 μ = some r) : Mt G yX2_at cX2_at 3 (some .int) 0 0 0 [.ref a0, .int l1, .int l2] μ (fun v μ' => v = some (.int r) ∧ μ' = μ) := by
  refine Mt.of (by decide) (Nat.le_of_ble_eq_true rfl) ?_
  show Rn_X2_at G (fun v μ' => v = some (.int r) ∧ μ' = μ) 0 [(0, .ref a0), (1, .int l1), (2, .int l2)] [] μ
  obtain ⟨_, h⟩ := Sat_ifp (show Sat (f_X2_at a0 l1 l2 μ) (fun x => x = r) from ⟨_, hx, rfl⟩)
  refine r_iload_n dX2_at_0 1 rfl ?_
  refine r_if_lt 21 dX2_at_1 (by decide) (fun c1 => ?_) (fun c1 => ?_)
  · have h := Sat_pos c1 h
    refine r_iconst (v := -1) dX2_at_21 (by decide) ?_
    exact r_ireturn rfl (by rw [← Sat_eq h]; exact ⟨rfl, rfl⟩) dX2_at_22
  · have h := Sat_neg c1 h
    refine r_iload_n dX2_at_4 1 rfl ?_
    refine r_aload_n dX2_at_5 0 rfl ?_
    obtain ⟨x6, e6, h⟩ := Sat_bind h
    refine r_getI fk_X2_21 rfl e6 dX2_at_6 ?_
    refine r_icmp_ge 21 dX2_at_9 (by decide) (fun c9 => ?_) (fun c9 => ?_)
    · have h := Sat_pos c9 h
      refine r_iconst (v := -1) dX2_at_21 (by decide) ?_
      exact r_ireturn rfl (by rw [← Sat_eq h]; exact ⟨rfl, rfl⟩) dX2_at_22
    · have h := Sat_neg c9 h
      refine r_iload_n dX2_at_12 2 rfl ?_
      refine r_if_lt 21 dX2_at_13 (by decide) (fun c13 => ?_) (fun c13 => ?_)
      · have h := Sat_pos c13 h
        refine r_iconst (v := -1) dX2_at_21 (by decide) ?_
        exact r_ireturn rfl (by rw [← Sat_eq h]; exact ⟨rfl, rfl⟩) dX2_at_22
      · have h := Sat_neg c13 h
        refine r_iload_n dX2_at_16 2 rfl ?_
        refine r_iconst (v := 4) dX2_at_17 (by decide) ?_
        refine r_icmp_lt 23 dX2_at_18 (by decide) (fun c18 => ?_) (fun c18 => ?_)
        · have h := Sat_pos c18 h
          refine r_aload_n dX2_at_23 0 rfl ?_
          obtain ⟨x24, e24, h⟩ := Sat_bind h
          refine r_getP fk_X2_17 rfl e24 dX2_at_24 ?_
          refine r_iload_n dX2_at_27 1 rfl ?_
          refine r_iconst (v := 4) dX2_at_28 (by decide) ?_
          refine r_imul dX2_at_29 ?_
          refine r_iload_n dX2_at_30 2 rfl ?_
          refine r_iadd dX2_at_31 ?_
          obtain ⟨x32, e32, h⟩ := Sat_bind h
          refine r_iaload e32 dX2_at_32 ?_
          exact r_ireturn rfl (by rw [← Sat_eq h]; exact ⟨rfl, rfl⟩) dX2_at_33
        · have h := Sat_neg c18 h
          refine r_iconst (v := -1) dX2_at_21 (by decide) ?_
          exact r_ireturn rfl (by rw [← Sat_eq h]; exact ⟨rfl, rfl⟩) dX2_at_22
theorem dX5_append_0 : decode cX5_append 0 = .ok (.bipush 24, 2) := by decide +kernel
theorem dX5_append_2 : decode cX5_append 2 = .ok (.istore_n 2, 1) := by decide +kernel
theorem dX5_append_3 : decode cX5_append 3 = .ok (.iload_n 2, 1) := by decide +kernel
theorem dX5_append_4 : decode cX5_append 4 = .ok (.ifCond .lt 45, 3) := by decide +kernel
theorem dX5_append_7 : decode cX5_append 7 = .ok (.aload_n 0, 1) := by decide +kernel
theorem dX5_append_8 : decode cX5_append 8 = .ok (.getfield 15, 3) := by decide +kernel
theorem dX5_append_11 : decode cX5_append 11 = .ok (.sipush 900, 3) := by decide +kernel
theorem dX5_append_14 : decode cX5_append 14 = .ok (.if_icmp .ge 29, 3) := by decide +kernel
theorem dX5_append_17 : decode cX5_append 17 = .ok (.aload_n 0, 1) := by decide +kernel
theorem dX5_append_18 : decode cX5_append 18 = .ok (.getfield 11, 3) := by decide +kernel
theorem dX5_append_21 : decode cX5_append 21 = .ok (.aload_n 0, 1) := by decide +kernel
theorem dX5_append_22 : decode cX5_append 22 = .ok (.getfield 15, 3) := by decide +kernel
theorem dX5_append_25 : decode cX5_append 25 = .ok (.iload_n 1, 1) := by decide +kernel
theorem dX5_append_26 : decode cX5_append 26 = .ok (.iload_n 2, 1) := by decide +kernel
theorem dX5_append_27 : decode cX5_append 27 = .ok (.iushr, 1) := by decide +kernel
theorem dX5_append_28 : decode cX5_append 28 = .ok (.sipush 255, 3) := by decide +kernel
theorem dX5_append_31 : decode cX5_append 31 = .ok (.iand, 1) := by decide +kernel
theorem dX5_append_32 : decode cX5_append 32 = .ok (.iastore, 1) := by decide +kernel
theorem dX5_append_33 : decode cX5_append 33 = .ok (.aload_n 0, 1) := by decide +kernel
theorem dX5_append_34 : decode cX5_append 34 = .ok (.dup, 1) := by decide +kernel
theorem dX5_append_35 : decode cX5_append 35 = .ok (.getfield 15, 3) := by decide +kernel
theorem dX5_append_38 : decode cX5_append 38 = .ok (.iconst 1, 1) := by decide +kernel
theorem dX5_append_39 : decode cX5_append 39 = .ok (.iadd, 1) := by decide +kernel
theorem dX5_append_40 : decode cX5_append 40 = .ok (.putfield 15, 3) := by decide +kernel
theorem dX5_append_43 : decode cX5_append 43 = .ok (.iinc 2 (-8), 3) := by decide +kernel
theorem dX5_append_46 : decode cX5_append 46 = .ok (.goto (-43), 3) := by decide +kernel
theorem dX5_append_49 : decode cX5_append 49 = .ok (.return_, 1) := by decide +kernel
noncomputable def f_X5_append_J43 (a0 : Nat) (l1 : Int32) (l2 : Int32) (μ : Mm) : Option ((Int32 × Mm) ⊕ (Mm)) :=
  (some (l2 + (-8 : Int32))).bind fun v43 => some (.inl (v43, μ))
noncomputable def f_X5_append_L3 (a0 : Nat) (l1 : Int32) (s3 : Int32 × Mm) : Option ((Int32 × Mm) ⊕ (Mm)) :=
  if s3.1 < 0 then some (.inr s3.2) else (gf_I 6 1 a0 s3.2).bind fun x8 => if (900 : Int32) ≤ x8 then f_X5_append_J43 a0 l1 s3.1 s3.2 else (gf_P 6 0 a0 s3.2).bind fun x18 => (gf_I 6 1 a0 s3.2).bind fun x22 => (pa_I x18 x22 (((l1.toUInt32 >>> (s3.1.toUInt32 &&& Int32.toUInt32 31)).toInt32) &&& (255 : Int32)) s3.2).bind fun μ32 => (gf_I 6 1 a0 μ32).bind fun x35 => (pf_I 6 1 a0 (x35 + (1 : Int32)) μ32).bind fun μ40 => f_X5_append_J43 a0 l1 s3.1 μ40
noncomputable def f_X5_append (a0 : Nat) (l1 : Int32) (μ : Mm) : Option Mm :=
  if (mm_K μ a0).1 = 6 then (whl (f_X5_append_L3 a0 l1) ((24 : Int32), μ)).bind (fun b3 => some b3) else none
abbrev Rn_X5_append (G : Gv) (Q : Option Value → Mm → Prop) (pc : Nat) (lv : List (Nat × Value)) (st : List Value) (μ : Mm) : Prop := Rn G RX5 cX5_append 3 none "append" (rmd 0 0 0) (Zm G 0 0 Q) 0 0 pc lv st μ
set_option maxRecDepth 100000 in
set_option maxHeartbeats 4000000 in
theorem m_X5_append {G : Gv} (a0 : Nat) (l1 : Int32) (μ : Mm) {r : Mm} (hx : f_X5_append a0 l1 μ = some r) : Mt G yX5_append cX5_append 3 none 0 0 0 [.ref a0, .int l1] μ (fun v μ' => v = none ∧ μ' = r) := by
  refine Mt.of (by decide) (Nat.le_of_ble_eq_true rfl) ?_
  show Rn_X5_append G (fun v μ' => v = none ∧ μ' = r) 0 [(0, .ref a0), (1, .int l1)] [] μ
  obtain ⟨_, h⟩ := Sat_ifp (show Sat (f_X5_append a0 l1 μ) (fun x => x = r) from ⟨_, hx, rfl⟩)
  refine r_bipush (v := 24) dX5_append_0 (by decide) ?_
  refine r_istore_n (lv' := [(2, .int (24 : Int32)), (0, .ref a0), (1, .int l1)]) dX5_append_2 rfl (by decide) rfl ?_
  refine r_sub (lv' := [(0, .ref a0), (1, .int l1), (2, .int (24 : Int32))]) [1, 2, 0] rfl ?_
  refine whl_K (s0 := (((24 : Int32), μ) : Int32 × Mm)) (RR := fun (s3 : Int32 × Mm) => Rn_X5_append G (fun v μ' => v = none ∧ μ' = r) 3 [(0, .ref a0), (1, .int l1), (2, .int s3.1)] [] s3.2) ?_ (Sat_bindK h)
  intro s3 K3 hI3 hX3 h
  have J43 : ∀ (l2_43 : Int32) (μ_43 : Mm), Sat (f_X5_append_J43 a0 l1 l2_43 μ_43) K3 → Rn_X5_append G (fun v μ' => v = none ∧ μ' = r) 43 [(0, .ref a0), (1, .int l1), (2, .int l2_43)] [] μ_43 := by
    intro l2_43 μ_43 h
    obtain ⟨v43, e43, h⟩ := Sat_bind h
    refine r_iinc (j := 2) (v := v43) (lv' := [(2, .int v43), (0, .ref a0), (1, .int l1)]) dX5_append_43 rfl (iinc_v e43 (by decide)) (by decide) rfl ?_
    refine r_goto 3 dX5_append_46 (by decide) ?_
    exact r_sub [1, 2, 0] rfl (hI3 _ (Sat_some h))
  refine r_iload_n dX5_append_3 2 rfl ?_
  refine r_if_lt 49 dX5_append_4 (by decide) (fun c4 => ?_) (fun c4 => ?_)
  · have h := Sat_pos c4 h
    have h := hX3 _ (Sat_some h)
    exact r_vreturn rfl (by rw [← Sat_eq h]; exact ⟨rfl, rfl⟩) dX5_append_49
  · have h := Sat_neg c4 h
    refine r_aload_n dX5_append_7 0 rfl ?_
    obtain ⟨x8, e8, h⟩ := Sat_bind h
    refine r_getI fk_X5_15 rfl e8 dX5_append_8 ?_
    refine r_sipush (v := 900) dX5_append_11 (by decide) ?_
    refine r_icmp_ge 43 dX5_append_14 (by decide) (fun c14 => ?_) (fun c14 => ?_)
    · have h := Sat_pos c14 h
      exact r_sub [0, 1, 2] rfl (J43 s3.1 s3.2 h)
    · have h := Sat_neg c14 h
      refine r_aload_n dX5_append_17 0 rfl ?_
      obtain ⟨x18, e18, h⟩ := Sat_bind h
      refine r_getP fk_X5_11 rfl e18 dX5_append_18 ?_
      refine r_aload_n dX5_append_21 0 rfl ?_
      obtain ⟨x22, e22, h⟩ := Sat_bind h
      refine r_getI fk_X5_15 rfl e22 dX5_append_22 ?_
      refine r_iload_n dX5_append_25 1 rfl ?_
      refine r_iload_n dX5_append_26 2 rfl ?_
      refine r_iushr dX5_append_27 ?_
      refine r_sipush (v := 255) dX5_append_28 (by decide) ?_
      refine r_iand dX5_append_31 ?_
      obtain ⟨μ32, e32, h⟩ := Sat_bind h
      refine r_iastore e32 dX5_append_32 ?_
      refine r_aload_n dX5_append_33 0 rfl ?_
      refine r_dup dX5_append_34 rfl ?_
      obtain ⟨x35, e35, h⟩ := Sat_bind h
      refine r_getI fk_X5_15 rfl e35 dX5_append_35 ?_
      refine r_iconst (v := 1) dX5_append_38 (by decide) ?_
      refine r_iadd dX5_append_39 ?_
      obtain ⟨μ40, e40, h⟩ := Sat_bind h
      refine r_putI fk_X5_15 rfl rfl e40 dX5_append_40 ?_
      exact r_sub [0, 1, 2] rfl (J43 s3.1 μ40 h)
theorem dX5_hasRoom_0 : decode cX5_hasRoom 0 = .ok (.aload_n 0, 1) := by decide +kernel
theorem dX5_hasRoom_1 : decode cX5_hasRoom 1 = .ok (.getfield 15, 3) := by decide +kernel
theorem dX5_hasRoom_4 : decode cX5_hasRoom 4 = .ok (.bipush 20, 2) := by decide +kernel
theorem dX5_hasRoom_6 : decode cX5_hasRoom 6 = .ok (.iadd, 1) := by decide +kernel
theorem dX5_hasRoom_7 : decode cX5_hasRoom 7 = .ok (.sipush 900, 3) := by decide +kernel
theorem dX5_hasRoom_10 : decode cX5_hasRoom 10 = .ok (.if_icmp .gt 7, 3) := by decide +kernel
theorem dX5_hasRoom_13 : decode cX5_hasRoom 13 = .ok (.iconst 1, 1) := by decide +kernel
theorem dX5_hasRoom_14 : decode cX5_hasRoom 14 = .ok (.goto 4, 3) := by decide +kernel
theorem dX5_hasRoom_17 : decode cX5_hasRoom 17 = .ok (.iconst 0, 1) := by decide +kernel
theorem dX5_hasRoom_18 : decode cX5_hasRoom 18 = .ok (.ireturn, 1) := by decide +kernel
noncomputable def f_X5_hasRoom (a0 : Nat) (μ : Mm) : Option Int32 :=
  if (mm_K μ a0).1 = 6 then (gf_I 6 1 a0 μ).bind fun x1 => if (900 : Int32) < (x1 + (20 : Int32)) then some (0 : Int32) else some (1 : Int32) else none
abbrev Rn_X5_hasRoom (G : Gv) (Q : Option Value → Mm → Prop) (pc : Nat) (lv : List (Nat × Value)) (st : List Value) (μ : Mm) : Prop := Rn G RX5 cX5_hasRoom 1 (some .boolean) "hasRoom" (rmd 0 0 0) (Zm G 0 0 Q) 0 0 pc lv st μ
set_option maxRecDepth 100000 in
set_option maxHeartbeats 4000000 in
theorem m_X5_hasRoom {G : Gv} (a0 : Nat) (μ : Mm) {r : Int32} (hx : f_X5_hasRoom a0 μ = some r) : Mt G yX5_hasRoom cX5_hasRoom 1 (some .boolean) 0 0 0 [.ref a0] μ (fun v μ' => v = some (.int r) ∧ μ' = μ) := by
  refine Mt.of (by decide) (Nat.le_of_ble_eq_true rfl) ?_
  show Rn_X5_hasRoom G (fun v μ' => v = some (.int r) ∧ μ' = μ) 0 [(0, .ref a0)] [] μ
  obtain ⟨_, h⟩ := Sat_ifp (show Sat (f_X5_hasRoom a0 μ) (fun x => x = r) from ⟨_, hx, rfl⟩)
  refine r_aload_n dX5_hasRoom_0 0 rfl ?_
  obtain ⟨x1, e1, h⟩ := Sat_bind h
  refine r_getI fk_X5_15 rfl e1 dX5_hasRoom_1 ?_
  refine r_bipush (v := 20) dX5_hasRoom_4 (by decide) ?_
  refine r_iadd dX5_hasRoom_6 ?_
  refine r_sipush (v := 900) dX5_hasRoom_7 (by decide) ?_
  refine r_icmp_gt 17 dX5_hasRoom_10 (by decide) (fun c10 => ?_) (fun c10 => ?_)
  · have h := Sat_pos c10 h
    refine r_iconst (v := 0) dX5_hasRoom_17 (by decide) ?_
    exact r_zreturn rfl (by decide) (by rw [← Sat_eq h]; exact ⟨rfl, rfl⟩) dX5_hasRoom_18
  · have h := Sat_neg c10 h
    refine r_iconst (v := 1) dX5_hasRoom_13 (by decide) ?_
    refine r_goto 18 dX5_hasRoom_14 (by decide) ?_
    exact r_zreturn rfl (by decide) (by rw [← Sat_eq h]; exact ⟨rfl, rfl⟩) dX5_hasRoom_18
theorem dX5_at_0 : decode cX5_at 0 = .ok (.iload_n 1, 1) := by decide +kernel
theorem dX5_at_1 : decode cX5_at 1 = .ok (.ifCond .lt 20, 3) := by decide +kernel
theorem dX5_at_4 : decode cX5_at 4 = .ok (.iload_n 1, 1) := by decide +kernel
theorem dX5_at_5 : decode cX5_at 5 = .ok (.aload_n 0, 1) := by decide +kernel
theorem dX5_at_6 : decode cX5_at 6 = .ok (.getfield 15, 3) := by decide +kernel
theorem dX5_at_9 : decode cX5_at 9 = .ok (.if_icmp .ge 12, 3) := by decide +kernel
theorem dX5_at_12 : decode cX5_at 12 = .ok (.aload_n 0, 1) := by decide +kernel
theorem dX5_at_13 : decode cX5_at 13 = .ok (.getfield 11, 3) := by decide +kernel
theorem dX5_at_16 : decode cX5_at 16 = .ok (.iload_n 1, 1) := by decide +kernel
theorem dX5_at_17 : decode cX5_at 17 = .ok (.iaload, 1) := by decide +kernel
theorem dX5_at_18 : decode cX5_at 18 = .ok (.goto 4, 3) := by decide +kernel
theorem dX5_at_21 : decode cX5_at 21 = .ok (.iconst (-1), 1) := by decide +kernel
theorem dX5_at_22 : decode cX5_at 22 = .ok (.ireturn, 1) := by decide +kernel
noncomputable def f_X5_at_J21  (μ : Mm) : Option Int32 :=
  some (-1 : Int32)
noncomputable def f_X5_at (a0 : Nat) (l1 : Int32) (μ : Mm) : Option Int32 :=
  if (mm_K μ a0).1 = 6 then if l1 < 0 then f_X5_at_J21 μ else (gf_I 6 1 a0 μ).bind fun x6 => if x6 ≤ l1 then f_X5_at_J21 μ else (gf_P 6 0 a0 μ).bind fun x13 => (ga_I x13 l1 μ).bind fun x17 => some x17 else none
abbrev Rn_X5_at (G : Gv) (Q : Option Value → Mm → Prop) (pc : Nat) (lv : List (Nat × Value)) (st : List Value) (μ : Mm) : Prop := Rn G RX5 cX5_at 2 (some .int) "at" (rmd 0 0 0) (Zm G 0 0 Q) 0 0 pc lv st μ
set_option maxRecDepth 100000 in
set_option maxHeartbeats 4000000 in
theorem m_X5_at {G : Gv} (a0 : Nat) (l1 : Int32) (μ : Mm) {r : Int32} (hx : f_X5_at a0 l1 μ = some r) : Mt G yX5_at cX5_at 2 (some .int) 0 0 0 [.ref a0, .int l1] μ (fun v μ' => v = some (.int r) ∧ μ' = μ) := by
  refine Mt.of (by decide) (Nat.le_of_ble_eq_true rfl) ?_
  show Rn_X5_at G (fun v μ' => v = some (.int r) ∧ μ' = μ) 0 [(0, .ref a0), (1, .int l1)] [] μ
  obtain ⟨_, h⟩ := Sat_ifp (show Sat (f_X5_at a0 l1 μ) (fun x => x = r) from ⟨_, hx, rfl⟩)
  have J21 : Sat (f_X5_at_J21 μ) (fun x => x = r) → Rn_X5_at G (fun v μ' => v = some (.int r) ∧ μ' = μ) 21 [] [] μ := by
    intro  h
    refine r_iconst (v := -1) dX5_at_21 (by decide) ?_
    exact r_ireturn rfl (by rw [← Sat_eq h]; exact ⟨rfl, rfl⟩) dX5_at_22
  refine r_iload_n dX5_at_0 1 rfl ?_
  refine r_if_lt 21 dX5_at_1 (by decide) (fun c1 => ?_) (fun c1 => ?_)
  · have h := Sat_pos c1 h
    exact r_sub [] rfl (J21  h)
  · have h := Sat_neg c1 h
    refine r_iload_n dX5_at_4 1 rfl ?_
    refine r_aload_n dX5_at_5 0 rfl ?_
    obtain ⟨x6, e6, h⟩ := Sat_bind h
    refine r_getI fk_X5_15 rfl e6 dX5_at_6 ?_
    refine r_icmp_ge 21 dX5_at_9 (by decide) (fun c9 => ?_) (fun c9 => ?_)
    · have h := Sat_pos c9 h
      exact r_sub [] rfl (J21  h)
    · have h := Sat_neg c9 h
      refine r_aload_n dX5_at_12 0 rfl ?_
      obtain ⟨x13, e13, h⟩ := Sat_bind h
      refine r_getP fk_X5_11 rfl e13 dX5_at_13 ?_
      refine r_iload_n dX5_at_16 1 rfl ?_
      obtain ⟨x17, e17, h⟩ := Sat_bind h
      refine r_iaload e17 dX5_at_17 ?_
      refine r_goto 22 dX5_at_18 (by decide) ?_
      exact r_ireturn rfl (by rw [← Sat_eq h]; exact ⟨rfl, rfl⟩) dX5_at_22
theorem dX6_skipBlanks_0 : decode cX6_skipBlanks 0 = .ok (.aload_n 0, 1) := by decide +kernel
theorem dX6_skipBlanks_1 : decode cX6_skipBlanks 1 = .ok (.getfield 15, 3) := by decide +kernel
theorem dX6_skipBlanks_4 : decode cX6_skipBlanks 4 = .ok (.aload_n 0, 1) := by decide +kernel
theorem dX6_skipBlanks_5 : decode cX6_skipBlanks 5 = .ok (.getfield 9, 3) := by decide +kernel
theorem dX6_skipBlanks_8 : decode cX6_skipBlanks 8 = .ok (.getfield 47, 3) := by decide +kernel
theorem dX6_skipBlanks_11 : decode cX6_skipBlanks 11 = .ok (.if_icmp .ge 48, 3) := by decide +kernel
theorem dX6_skipBlanks_14 : decode cX6_skipBlanks 14 = .ok (.aload_n 0, 1) := by decide +kernel
theorem dX6_skipBlanks_15 : decode cX6_skipBlanks 15 = .ok (.getfield 9, 3) := by decide +kernel
theorem dX6_skipBlanks_18 : decode cX6_skipBlanks 18 = .ok (.aload_n 0, 1) := by decide +kernel
theorem dX6_skipBlanks_19 : decode cX6_skipBlanks 19 = .ok (.getfield 15, 3) := by decide +kernel
theorem dX6_skipBlanks_22 : decode cX6_skipBlanks 22 = .ok (.invokevirtual 25, 3) := by decide +kernel
theorem dX6_skipBlanks_25 : decode cX6_skipBlanks 25 = .ok (.bipush 32, 2) := by decide +kernel
theorem dX6_skipBlanks_27 : decode cX6_skipBlanks 27 = .ok (.if_icmp .eq 19, 3) := by decide +kernel
theorem dX6_skipBlanks_30 : decode cX6_skipBlanks 30 = .ok (.aload_n 0, 1) := by decide +kernel
theorem dX6_skipBlanks_31 : decode cX6_skipBlanks 31 = .ok (.getfield 9, 3) := by decide +kernel
theorem dX6_skipBlanks_34 : decode cX6_skipBlanks 34 = .ok (.aload_n 0, 1) := by decide +kernel
theorem dX6_skipBlanks_35 : decode cX6_skipBlanks 35 = .ok (.getfield 15, 3) := by decide +kernel
theorem dX6_skipBlanks_38 : decode cX6_skipBlanks 38 = .ok (.invokevirtual 25, 3) := by decide +kernel
theorem dX6_skipBlanks_41 : decode cX6_skipBlanks 41 = .ok (.bipush 10, 2) := by decide +kernel
theorem dX6_skipBlanks_43 : decode cX6_skipBlanks 43 = .ok (.if_icmp .ne 16, 3) := by decide +kernel
theorem dX6_skipBlanks_46 : decode cX6_skipBlanks 46 = .ok (.aload_n 0, 1) := by decide +kernel
theorem dX6_skipBlanks_47 : decode cX6_skipBlanks 47 = .ok (.dup, 1) := by decide +kernel
theorem dX6_skipBlanks_48 : decode cX6_skipBlanks 48 = .ok (.getfield 15, 3) := by decide +kernel
theorem dX6_skipBlanks_51 : decode cX6_skipBlanks 51 = .ok (.iconst 1, 1) := by decide +kernel
theorem dX6_skipBlanks_52 : decode cX6_skipBlanks 52 = .ok (.iadd, 1) := by decide +kernel
theorem dX6_skipBlanks_53 : decode cX6_skipBlanks 53 = .ok (.putfield 15, 3) := by decide +kernel
theorem dX6_skipBlanks_56 : decode cX6_skipBlanks 56 = .ok (.goto (-56), 3) := by decide +kernel
theorem dX6_skipBlanks_59 : decode cX6_skipBlanks 59 = .ok (.return_, 1) := by decide +kernel
noncomputable def f_X6_skipBlanks_J46 (a0 : Nat) (μ : Mm) : Option ((Mm) ⊕ (Mm)) :=
  (gf_I 7 1 a0 μ).bind fun x48 => (pf_I 7 1 a0 (x48 + (1 : Int32)) μ).bind fun μ53 => some (.inl μ53)
noncomputable def f_X6_skipBlanks_L0 (a0 : Nat) (s0 : Mm) : Option ((Mm) ⊕ (Mm)) :=
  (gf_I 7 1 a0 s0).bind fun x1 => (gf_P 7 0 a0 s0).bind fun x5 => (gf_I 6 1 x5 s0).bind fun x8 => if x8 ≤ x1 then some (.inr s0) else (gf_P 7 0 a0 s0).bind fun x15 => (gf_I 7 1 a0 s0).bind fun x19 => (f_X5_at x15 x19 s0).bind fun x22 => if x22 = (32 : Int32) then f_X6_skipBlanks_J46 a0 s0 else (gf_P 7 0 a0 s0).bind fun x31 => (gf_I 7 1 a0 s0).bind fun x35 => (f_X5_at x31 x35 s0).bind fun x38 => if x38 = (10 : Int32) then f_X6_skipBlanks_J46 a0 s0 else some (.inr s0)
noncomputable def f_X6_skipBlanks (a0 : Nat) (μ : Mm) : Option Mm :=
  if (mm_K μ a0).1 = 7 then (whl (f_X6_skipBlanks_L0 a0) μ).bind (fun b0 => some b0) else none
abbrev Rn_X6_skipBlanks (G : Gv) (Q : Option Value → Mm → Prop) (pc : Nat) (lv : List (Nat × Value)) (st : List Value) (μ : Mm) : Prop := Rn G RX6 cX6_skipBlanks 1 none "skipBlanks" (rmd 1 0 0) (Zm G 0 0 Q) 0 0 pc lv st μ
set_option maxRecDepth 100000 in
set_option maxHeartbeats 4000000 in
theorem m_X6_skipBlanks {G : Gv} (a0 : Nat) (μ : Mm) {r : Mm} (hx : f_X6_skipBlanks a0 μ = some r) : Mt G yX6_skipBlanks cX6_skipBlanks 1 none 1 0 0 [.ref a0] μ (fun v μ' => v = none ∧ μ' = r) := by
  refine Mt.of (by decide) (Nat.le_of_ble_eq_true rfl) ?_
  show Rn_X6_skipBlanks G (fun v μ' => v = none ∧ μ' = r) 0 [(0, .ref a0)] [] μ
  obtain ⟨_, h⟩ := Sat_ifp (show Sat (f_X6_skipBlanks a0 μ) (fun x => x = r) from ⟨_, hx, rfl⟩)
  refine r_sub (lv' := [(0, .ref a0)]) [0] rfl ?_
  refine whl_K (s0 := (μ : Mm)) (RR := fun (s0 : Mm) => Rn_X6_skipBlanks G (fun v μ' => v = none ∧ μ' = r) 0 [(0, .ref a0)] [] s0) ?_ (Sat_bindK h)
  intro s0 K0 hI0 hX0 h
  have J46 : ∀ (μ_46 : Mm), Sat (f_X6_skipBlanks_J46 a0 μ_46) K0 → Rn_X6_skipBlanks G (fun v μ' => v = none ∧ μ' = r) 46 [(0, .ref a0)] [] μ_46 := by
    intro μ_46 h
    refine r_aload_n dX6_skipBlanks_46 0 rfl ?_
    refine r_dup dX6_skipBlanks_47 rfl ?_
    obtain ⟨x48, e48, h⟩ := Sat_bind h
    refine r_getI fk_X6_15 rfl e48 dX6_skipBlanks_48 ?_
    refine r_iconst (v := 1) dX6_skipBlanks_51 (by decide) ?_
    refine r_iadd dX6_skipBlanks_52 ?_
    obtain ⟨μ53, e53, h⟩ := Sat_bind h
    refine r_putI fk_X6_15 rfl rfl e53 dX6_skipBlanks_53 ?_
    refine r_goto 0 dX6_skipBlanks_56 (by decide) ?_
    exact r_sub [0] rfl (hI0 _ (Sat_some h))
  refine r_aload_n dX6_skipBlanks_0 0 rfl ?_
  obtain ⟨x1, e1, h⟩ := Sat_bind h
  refine r_getI fk_X6_15 rfl e1 dX6_skipBlanks_1 ?_
  refine r_aload_n dX6_skipBlanks_4 0 rfl ?_
  obtain ⟨x5, e5, h⟩ := Sat_bind h
  refine r_getP fk_X6_9 rfl e5 dX6_skipBlanks_5 ?_
  obtain ⟨x8, e8, h⟩ := Sat_bind h
  refine r_getI fk_X6_47 rfl e8 dX6_skipBlanks_8 ?_
  refine r_icmp_ge 59 dX6_skipBlanks_11 (by decide) (fun c11 => ?_) (fun c11 => ?_)
  · have h := Sat_pos c11 h
    have h := hX0 _ (Sat_some h)
    exact r_vreturn rfl (by rw [← Sat_eq h]; exact ⟨rfl, rfl⟩) dX6_skipBlanks_59
  · have h := Sat_neg c11 h
    refine r_aload_n dX6_skipBlanks_14 0 rfl ?_
    obtain ⟨x15, e15, h⟩ := Sat_bind h
    refine r_getP fk_X6_9 rfl e15 dX6_skipBlanks_15 ?_
    refine r_aload_n dX6_skipBlanks_18 0 rfl ?_
    obtain ⟨x19, e19, h⟩ := Sat_bind h
    refine r_getI fk_X6_15 rfl e19 dX6_skipBlanks_19 ?_
    obtain ⟨x22, e22, h⟩ := Sat_bind h
    refine r_cV (t := 6) [.int x19] [] (m_X5_at x15 x19 s0 e22) ck_X5_at lk_X6_25 in_X5_at se_X5_at (kd_of e22) ⟨rfl, by decide, by decide⟩ rfl rfl (by decide) ⟨by decide, by decide⟩ ⟨by decide, by decide⟩ dX6_skipBlanks_22 ?_
    refine r_bipush (v := 32) dX6_skipBlanks_25 (by decide) ?_
    refine r_icmp_eq 46 dX6_skipBlanks_27 (by decide) (fun c27 => ?_) (fun c27 => ?_)
    · have h := Sat_pos c27 h
      exact r_sub [0] rfl (J46 s0 h)
    · have h := Sat_neg c27 h
      refine r_aload_n dX6_skipBlanks_30 0 rfl ?_
      obtain ⟨x31, e31, h⟩ := Sat_bind h
      refine r_getP fk_X6_9 rfl e31 dX6_skipBlanks_31 ?_
      refine r_aload_n dX6_skipBlanks_34 0 rfl ?_
      obtain ⟨x35, e35, h⟩ := Sat_bind h
      refine r_getI fk_X6_15 rfl e35 dX6_skipBlanks_35 ?_
      obtain ⟨x38, e38, h⟩ := Sat_bind h
      refine r_cV (t := 6) [.int x35] [] (m_X5_at x31 x35 s0 e38) ck_X5_at lk_X6_25 in_X5_at se_X5_at (kd_of e38) ⟨rfl, by decide, by decide⟩ rfl rfl (by decide) ⟨by decide, by decide⟩ ⟨by decide, by decide⟩ dX6_skipBlanks_38 ?_
      refine r_bipush (v := 10) dX6_skipBlanks_41 (by decide) ?_
      refine r_icmp_ne 59 dX6_skipBlanks_43 (by decide) (fun c43 => ?_) (fun c43 => ?_)
      · have h := Sat_neg c43 h
        have h := hX0 _ (Sat_some h)
        exact r_vreturn rfl (by rw [← Sat_eq h]; exact ⟨rfl, rfl⟩) dX6_skipBlanks_59
      · have h := Sat_pos c43 h
        exact r_sub [0] rfl (J46 s0 h)
theorem dX2_isFull_0 : decode cX2_isFull 0 = .ok (.aload_n 0, 1) := by decide +kernel
theorem dX2_isFull_1 : decode cX2_isFull 1 = .ok (.getfield 21, 3) := by decide +kernel
theorem dX2_isFull_4 : decode cX2_isFull 4 = .ok (.iconst 1, 1) := by decide +kernel
theorem dX2_isFull_5 : decode cX2_isFull 5 = .ok (.iadd, 1) := by decide +kernel
theorem dX2_isFull_6 : decode cX2_isFull 6 = .ok (.iconst 4, 1) := by decide +kernel
theorem dX2_isFull_7 : decode cX2_isFull 7 = .ok (.imul, 1) := by decide +kernel
theorem dX2_isFull_8 : decode cX2_isFull 8 = .ok (.aload_n 0, 1) := by decide +kernel
theorem dX2_isFull_9 : decode cX2_isFull 9 = .ok (.getfield 17, 3) := by decide +kernel
theorem dX2_isFull_12 : decode cX2_isFull 12 = .ok (.arraylength, 1) := by decide +kernel
theorem dX2_isFull_13 : decode cX2_isFull 13 = .ok (.if_icmp .le 7, 3) := by decide +kernel
theorem dX2_isFull_16 : decode cX2_isFull 16 = .ok (.iconst 1, 1) := by decide +kernel
theorem dX2_isFull_17 : decode cX2_isFull 17 = .ok (.goto 4, 3) := by decide +kernel
theorem dX2_isFull_20 : decode cX2_isFull 20 = .ok (.iconst 0, 1) := by decide +kernel
theorem dX2_isFull_21 : decode cX2_isFull 21 = .ok (.ireturn, 1) := by decide +kernel
noncomputable def f_X2_isFull (a0 : Nat) (μ : Mm) : Option Int32 :=
  if (mm_K μ a0).1 = 3 then (gf_I 3 1 a0 μ).bind fun x1 => (gf_P 3 0 a0 μ).bind fun x9 => (ga_len x9 μ).bind fun x12 => if ((x1 + (1 : Int32)) * (4 : Int32)) ≤ x12 then some (0 : Int32) else some (1 : Int32) else none
abbrev Rn_X2_isFull (G : Gv) (Q : Option Value → Mm → Prop) (pc : Nat) (lv : List (Nat × Value)) (st : List Value) (μ : Mm) : Prop := Rn G RX2 cX2_isFull 1 (some .boolean) "isFull" (rmd 0 0 0) (Zm G 0 0 Q) 0 0 pc lv st μ
set_option maxRecDepth 100000 in
set_option maxHeartbeats 4000000 in
theorem m_X2_isFull {G : Gv} (a0 : Nat) (μ : Mm) {r : Int32} (hx : f_X2_isFull a0 μ = some r) : Mt G yX2_isFull cX2_isFull 1 (some .boolean) 0 0 0 [.ref a0] μ (fun v μ' => v = some (.int r) ∧ μ' = μ) := by
  refine Mt.of (by decide) (Nat.le_of_ble_eq_true rfl) ?_
  show Rn_X2_isFull G (fun v μ' => v = some (.int r) ∧ μ' = μ) 0 [(0, .ref a0)] [] μ
  obtain ⟨_, h⟩ := Sat_ifp (show Sat (f_X2_isFull a0 μ) (fun x => x = r) from ⟨_, hx, rfl⟩)
  refine r_aload_n dX2_isFull_0 0 rfl ?_
  obtain ⟨x1, e1, h⟩ := Sat_bind h
  refine r_getI fk_X2_21 rfl e1 dX2_isFull_1 ?_
  refine r_iconst (v := 1) dX2_isFull_4 (by decide) ?_
  refine r_iadd dX2_isFull_5 ?_
  refine r_iconst (v := 4) dX2_isFull_6 (by decide) ?_
  refine r_imul dX2_isFull_7 ?_
  refine r_aload_n dX2_isFull_8 0 rfl ?_
  obtain ⟨x9, e9, h⟩ := Sat_bind h
  refine r_getP fk_X2_17 rfl e9 dX2_isFull_9 ?_
  obtain ⟨x12, e12, h⟩ := Sat_bind h
  refine r_len e12 dX2_isFull_12 ?_
  refine r_icmp_le 20 dX2_isFull_13 (by decide) (fun c13 => ?_) (fun c13 => ?_)
  · have h := Sat_pos c13 h
    refine r_iconst (v := 0) dX2_isFull_20 (by decide) ?_
    exact r_zreturn rfl (by decide) (by rw [← Sat_eq h]; exact ⟨rfl, rfl⟩) dX2_isFull_21
  · have h := Sat_neg c13 h
    refine r_iconst (v := 1) dX2_isFull_16 (by decide) ?_
    refine r_goto 21 dX2_isFull_17 (by decide) ?_
    exact r_zreturn rfl (by decide) (by rw [← Sat_eq h]; exact ⟨rfl, rfl⟩) dX2_isFull_21
theorem dX2_add_0 : decode cX2_add 0 = .ok (.aload_n 0, 1) := by decide +kernel
theorem dX2_add_1 : decode cX2_add 1 = .ok (.invokevirtual 25, 3) := by decide +kernel
theorem dX2_add_4 : decode cX2_add 4 = .ok (.ifCond .eq 4, 3) := by decide +kernel
theorem dX2_add_7 : decode cX2_add 7 = .ok (.return_, 1) := by decide +kernel
theorem dX2_add_8 : decode cX2_add 8 = .ok (.aload_n 0, 1) := by decide +kernel
theorem dX2_add_9 : decode cX2_add 9 = .ok (.getfield 21, 3) := by decide +kernel
theorem dX2_add_12 : decode cX2_add 12 = .ok (.iconst 4, 1) := by decide +kernel
theorem dX2_add_13 : decode cX2_add 13 = .ok (.imul, 1) := by decide +kernel
theorem dX2_add_14 : decode cX2_add 14 = .ok (.istore 5, 2) := by decide +kernel
theorem dX2_add_16 : decode cX2_add 16 = .ok (.aload_n 0, 1) := by decide +kernel
theorem dX2_add_17 : decode cX2_add 17 = .ok (.getfield 17, 3) := by decide +kernel
theorem dX2_add_20 : decode cX2_add 20 = .ok (.iload 5, 2) := by decide +kernel
theorem dX2_add_22 : decode cX2_add 22 = .ok (.iload_n 1, 1) := by decide +kernel
theorem dX2_add_23 : decode cX2_add 23 = .ok (.iastore, 1) := by decide +kernel
theorem dX2_add_24 : decode cX2_add 24 = .ok (.aload_n 0, 1) := by decide +kernel
theorem dX2_add_25 : decode cX2_add 25 = .ok (.getfield 17, 3) := by decide +kernel
theorem dX2_add_28 : decode cX2_add 28 = .ok (.iload 5, 2) := by decide +kernel
theorem dX2_add_30 : decode cX2_add 30 = .ok (.iconst 1, 1) := by decide +kernel
theorem dX2_add_31 : decode cX2_add 31 = .ok (.iadd, 1) := by decide +kernel
theorem dX2_add_32 : decode cX2_add 32 = .ok (.iload_n 2, 1) := by decide +kernel
theorem dX2_add_33 : decode cX2_add 33 = .ok (.iastore, 1) := by decide +kernel
theorem dX2_add_34 : decode cX2_add 34 = .ok (.aload_n 0, 1) := by decide +kernel
theorem dX2_add_35 : decode cX2_add 35 = .ok (.getfield 17, 3) := by decide +kernel
theorem dX2_add_38 : decode cX2_add 38 = .ok (.iload 5, 2) := by decide +kernel
theorem dX2_add_40 : decode cX2_add 40 = .ok (.iconst 2, 1) := by decide +kernel
theorem dX2_add_41 : decode cX2_add 41 = .ok (.iadd, 1) := by decide +kernel
theorem dX2_add_42 : decode cX2_add 42 = .ok (.iload_n 3, 1) := by decide +kernel
theorem dX2_add_43 : decode cX2_add 43 = .ok (.iastore, 1) := by decide +kernel
theorem dX2_add_44 : decode cX2_add 44 = .ok (.aload_n 0, 1) := by decide +kernel
theorem dX2_add_45 : decode cX2_add 45 = .ok (.getfield 17, 3) := by decide +kernel
theorem dX2_add_48 : decode cX2_add 48 = .ok (.iload 5, 2) := by decide +kernel
theorem dX2_add_50 : decode cX2_add 50 = .ok (.iconst 3, 1) := by decide +kernel
theorem dX2_add_51 : decode cX2_add 51 = .ok (.iadd, 1) := by decide +kernel
theorem dX2_add_52 : decode cX2_add 52 = .ok (.iload 4, 2) := by decide +kernel
theorem dX2_add_54 : decode cX2_add 54 = .ok (.iastore, 1) := by decide +kernel
theorem dX2_add_55 : decode cX2_add 55 = .ok (.aload_n 0, 1) := by decide +kernel
theorem dX2_add_56 : decode cX2_add 56 = .ok (.dup, 1) := by decide +kernel
theorem dX2_add_57 : decode cX2_add 57 = .ok (.getfield 21, 3) := by decide +kernel
theorem dX2_add_60 : decode cX2_add 60 = .ok (.iconst 1, 1) := by decide +kernel
theorem dX2_add_61 : decode cX2_add 61 = .ok (.iadd, 1) := by decide +kernel
theorem dX2_add_62 : decode cX2_add 62 = .ok (.putfield 21, 3) := by decide +kernel
theorem dX2_add_65 : decode cX2_add 65 = .ok (.return_, 1) := by decide +kernel
noncomputable def f_X2_add (a0 : Nat) (l1 : Int32) (l2 : Int32) (l3 : Int32) (l4 : Int32) (μ : Mm) : Option Mm :=
  if (mm_K μ a0).1 = 3 then (f_X2_isFull a0 μ).bind fun x1 => if x1 = 0 then (gf_I 3 1 a0 μ).bind fun x9 => (some (x9 * (4 : Int32))).bind fun v14 => (gf_P 3 0 a0 μ).bind fun x17 => (pa_I x17 v14 l1 μ).bind fun μ23 => (gf_P 3 0 a0 μ23).bind fun x25 => (pa_I x25 (v14 + (1 : Int32)) l2 μ23).bind fun μ33 => (gf_P 3 0 a0 μ33).bind fun x35 => (pa_I x35 (v14 + (2 : Int32)) l3 μ33).bind fun μ43 => (gf_P 3 0 a0 μ43).bind fun x45 => (pa_I x45 (v14 + (3 : Int32)) l4 μ43).bind fun μ54 => (gf_I 3 1 a0 μ54).bind fun x57 => (pf_I 3 1 a0 (x57 + (1 : Int32)) μ54).bind fun μ62 => some μ62 else some μ else none
abbrev Rn_X2_add (G : Gv) (Q : Option Value → Mm → Prop) (pc : Nat) (lv : List (Nat × Value)) (st : List Value) (μ : Mm) : Prop := Rn G RX2 cX2_add 6 none "add" (rmd 1 0 0) (Zm G 0 0 Q) 0 0 pc lv st μ
set_option maxRecDepth 100000 in
set_option maxHeartbeats 4000000 in
theorem m_X2_add {G : Gv} (a0 : Nat) (l1 : Int32) (l2 : Int32) (l3 : Int32) (l4 : Int32) (μ : Mm) {r : Mm} (hx : f_X2_add a0 l1 l2 l3 l4 μ = some r) : Mt G yX2_add cX2_add 6 none 1 0 0 [.ref a0, .int l1, .int l2, .int l3, .int l4] μ (fun v μ' => v = none ∧ μ' = r) := by
  refine Mt.of (by decide) (Nat.le_of_ble_eq_true rfl) ?_
  show Rn_X2_add G (fun v μ' => v = none ∧ μ' = r) 0 [(0, .ref a0), (1, .int l1), (2, .int l2), (3, .int l3), (4, .int l4)] [] μ
  obtain ⟨_, h⟩ := Sat_ifp (show Sat (f_X2_add a0 l1 l2 l3 l4 μ) (fun x => x = r) from ⟨_, hx, rfl⟩)
  refine r_aload_n dX2_add_0 0 rfl ?_
  obtain ⟨x1, e1, h⟩ := Sat_bind h
  refine r_cV (t := 3) [] [] (m_X2_isFull a0 μ e1) ck_X2_isFull lk_X2_25 in_X2_isFull se_X2_isFull (kd_of e1) ⟨rfl, by decide, by decide⟩ rfl rfl (by decide) ⟨by decide, by decide⟩ ⟨by decide, by decide⟩ dX2_add_1 ?_
  refine r_if_eq 8 dX2_add_4 (by decide) (fun c4 => ?_) (fun c4 => ?_)
  · have h := Sat_pos c4 h
    refine r_aload_n dX2_add_8 0 rfl ?_
    obtain ⟨x9, e9, h⟩ := Sat_bind h
    refine r_getI fk_X2_21 rfl e9 dX2_add_9 ?_
    refine r_iconst (v := 4) dX2_add_12 (by decide) ?_
    refine r_imul dX2_add_13 ?_
    obtain ⟨v14, e14, h⟩ := Sat_bind h
    refine r_topi (Option.some.inj e14) ?_
    refine r_istore (lv' := [(5, .int v14), (0, .ref a0), (1, .int l1), (2, .int l2), (3, .int l3), (4, .int l4)]) dX2_add_14 (by decide) rfl ?_
    refine r_aload_n dX2_add_16 1 rfl ?_
    obtain ⟨x17, e17, h⟩ := Sat_bind h
    refine r_getP fk_X2_17 rfl e17 dX2_add_17 ?_
    refine r_iload dX2_add_20 0 rfl ?_
    refine r_iload_n dX2_add_22 2 rfl ?_
    obtain ⟨μ23, e23, h⟩ := Sat_bind h
    refine r_iastore e23 dX2_add_23 ?_
    refine r_aload_n dX2_add_24 1 rfl ?_
    obtain ⟨x25, e25, h⟩ := Sat_bind h
    refine r_getP fk_X2_17 rfl e25 dX2_add_25 ?_
    refine r_iload dX2_add_28 0 rfl ?_
    refine r_iconst (v := 1) dX2_add_30 (by decide) ?_
    refine r_iadd dX2_add_31 ?_
    refine r_iload_n dX2_add_32 3 rfl ?_
    obtain ⟨μ33, e33, h⟩ := Sat_bind h
    refine r_iastore e33 dX2_add_33 ?_
    refine r_aload_n dX2_add_34 1 rfl ?_
    obtain ⟨x35, e35, h⟩ := Sat_bind h
    refine r_getP fk_X2_17 rfl e35 dX2_add_35 ?_
    refine r_iload dX2_add_38 0 rfl ?_
    refine r_iconst (v := 2) dX2_add_40 (by decide) ?_
    refine r_iadd dX2_add_41 ?_
    refine r_iload_n dX2_add_42 4 rfl ?_
    obtain ⟨μ43, e43, h⟩ := Sat_bind h
    refine r_iastore e43 dX2_add_43 ?_
    refine r_aload_n dX2_add_44 1 rfl ?_
    obtain ⟨x45, e45, h⟩ := Sat_bind h
    refine r_getP fk_X2_17 rfl e45 dX2_add_45 ?_
    refine r_iload dX2_add_48 0 rfl ?_
    refine r_iconst (v := 3) dX2_add_50 (by decide) ?_
    refine r_iadd dX2_add_51 ?_
    refine r_iload dX2_add_52 5 rfl ?_
    obtain ⟨μ54, e54, h⟩ := Sat_bind h
    refine r_iastore e54 dX2_add_54 ?_
    refine r_aload_n dX2_add_55 1 rfl ?_
    refine r_dup dX2_add_56 rfl ?_
    obtain ⟨x57, e57, h⟩ := Sat_bind h
    refine r_getI fk_X2_21 rfl e57 dX2_add_57 ?_
    refine r_iconst (v := 1) dX2_add_60 (by decide) ?_
    refine r_iadd dX2_add_61 ?_
    obtain ⟨μ62, e62, h⟩ := Sat_bind h
    refine r_putI fk_X2_21 rfl rfl e62 dX2_add_62 ?_
    exact r_vreturn rfl (by rw [← Sat_eq h]; exact ⟨rfl, rfl⟩) dX2_add_65
  · have h := Sat_neg c4 h
    exact r_vreturn rfl (by rw [← Sat_eq h]; exact ⟨rfl, rfl⟩) dX2_add_7
