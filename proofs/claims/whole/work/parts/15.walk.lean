theorem dX8_readBetween_0 : decode cX8_readBetween 0 = .ok (.aload_n 0, 1) := by decide +kernel
theorem dX8_readBetween_1 : decode cX8_readBetween 1 = .ok (.getfield 15, 3) := by decide +kernel
theorem dX8_readBetween_4 : decode cX8_readBetween 4 = .ok (.invokevirtual 39, 3) := by decide +kernel
theorem dX8_readBetween_7 : decode cX8_readBetween 7 = .ok (.aload_n 0, 1) := by decide +kernel
theorem dX8_readBetween_8 : decode cX8_readBetween 8 = .ok (.getfield 15, 3) := by decide +kernel
theorem dX8_readBetween_11 : decode cX8_readBetween 11 = .ok (.getfield 44, 3) := by decide +kernel
theorem dX8_readBetween_14 : decode cX8_readBetween 14 = .ok (.iconst 2, 1) := by decide +kernel
theorem dX8_readBetween_15 : decode cX8_readBetween 15 = .ok (.if_icmp .eq 11, 3) := by decide +kernel
theorem dX8_readBetween_18 : decode cX8_readBetween 18 = .ok (.aload_n 0, 1) := by decide +kernel
theorem dX8_readBetween_19 : decode cX8_readBetween 19 = .ok (.iconst 1, 1) := by decide +kernel
theorem dX8_readBetween_20 : decode cX8_readBetween 20 = .ok (.invokevirtual 68, 3) := by decide +kernel
theorem dX8_readBetween_23 : decode cX8_readBetween 23 = .ok (.pop, 1) := by decide +kernel
theorem dX8_readBetween_24 : decode cX8_readBetween 24 = .ok (.iconst (-1), 1) := by decide +kernel
theorem dX8_readBetween_25 : decode cX8_readBetween 25 = .ok (.ireturn, 1) := by decide +kernel
theorem dX8_readBetween_26 : decode cX8_readBetween 26 = .ok (.aload_n 0, 1) := by decide +kernel
theorem dX8_readBetween_27 : decode cX8_readBetween 27 = .ok (.getfield 15, 3) := by decide +kernel
theorem dX8_readBetween_30 : decode cX8_readBetween 30 = .ok (.getfield 183, 3) := by decide +kernel
theorem dX8_readBetween_33 : decode cX8_readBetween 33 = .ok (.iload_n 1, 1) := by decide +kernel
theorem dX8_readBetween_34 : decode cX8_readBetween 34 = .ok (.if_icmp .lt 14, 3) := by decide +kernel
theorem dX8_readBetween_37 : decode cX8_readBetween 37 = .ok (.aload_n 0, 1) := by decide +kernel
theorem dX8_readBetween_38 : decode cX8_readBetween 38 = .ok (.getfield 15, 3) := by decide +kernel
theorem dX8_readBetween_41 : decode cX8_readBetween 41 = .ok (.getfield 183, 3) := by decide +kernel
theorem dX8_readBetween_44 : decode cX8_readBetween 44 = .ok (.iload_n 2, 1) := by decide +kernel
theorem dX8_readBetween_45 : decode cX8_readBetween 45 = .ok (.if_icmp .le 11, 3) := by decide +kernel
theorem dX8_readBetween_48 : decode cX8_readBetween 48 = .ok (.aload_n 0, 1) := by decide +kernel
theorem dX8_readBetween_49 : decode cX8_readBetween 49 = .ok (.iconst 2, 1) := by decide +kernel
theorem dX8_readBetween_50 : decode cX8_readBetween 50 = .ok (.invokevirtual 68, 3) := by decide +kernel
theorem dX8_readBetween_53 : decode cX8_readBetween 53 = .ok (.pop, 1) := by decide +kernel
theorem dX8_readBetween_54 : decode cX8_readBetween 54 = .ok (.iconst (-1), 1) := by decide +kernel
theorem dX8_readBetween_55 : decode cX8_readBetween 55 = .ok (.ireturn, 1) := by decide +kernel
theorem dX8_readBetween_56 : decode cX8_readBetween 56 = .ok (.aload_n 0, 1) := by decide +kernel
theorem dX8_readBetween_57 : decode cX8_readBetween 57 = .ok (.getfield 15, 3) := by decide +kernel
theorem dX8_readBetween_60 : decode cX8_readBetween 60 = .ok (.getfield 183, 3) := by decide +kernel
theorem dX8_readBetween_63 : decode cX8_readBetween 63 = .ok (.ireturn, 1) := by decide +kernel
noncomputable def f_X8_readBetween_J48 (a0 : Nat) (μ : Mm) : Option (Int32 × Mm) :=
  (f_X8_fail a0 (2 : Int32) μ).bind fun x50 => some ((-1 : Int32), x50.2)
noncomputable def f_X8_readBetween (a0 : Nat) (l1 : Int32) (l2 : Int32) (μ : Mm) : Option (Int32 × Mm) :=
  if (mm_K μ a0).1 = 9 then (gf_P 9 0 a0 μ).bind fun x1 => (f_X6_advance x1 μ).bind fun x4 => (gf_P 9 0 a0 x4).bind fun x8 => (gf_I 7 2 x8 x4).bind fun x11 => if x11 = (2 : Int32) then (gf_P 9 0 a0 x4).bind fun x27 => (gf_I 7 5 x27 x4).bind fun x30 => if x30 < l1 then f_X8_readBetween_J48 a0 x4 else (gf_P 9 0 a0 x4).bind fun x38 => (gf_I 7 5 x38 x4).bind fun x41 => if x41 ≤ l2 then (gf_P 9 0 a0 x4).bind fun x57 => (gf_I 7 5 x57 x4).bind fun x60 => some (x60, x4) else f_X8_readBetween_J48 a0 x4 else (f_X8_fail a0 (1 : Int32) x4).bind fun x20 => some ((-1 : Int32), x20.2) else none
abbrev Rn_X8_readBetween (G : Gv) (Q : Option Value → Mm → Prop) (pc : Nat) (lv : List (Nat × Value)) (st : List Value) (μ : Mm) : Prop := Rn G RX8 cX8_readBetween 3 (some .int) "readBetween" (rmd 3 0 0) (Zm G 0 0 Q) 0 0 pc lv st μ
set_option maxRecDepth 100000 in
set_option maxHeartbeats 4000000 in
theorem m_X8_readBetween {G : Gv} (a0 : Nat) (l1 : Int32) (l2 : Int32) (μ : Mm) {r : (Int32 × Mm)} (hx : f_X8_readBetween a0 l1 l2 μ = some r) : Mt G yX8_readBetween cX8_readBetween 3 (some .int) 3 0 0 [.ref a0, .int l1, .int l2] μ (fun v μ' => v = some (.int r.1) ∧ μ' = r.2) := by
  refine Mt.of (by decide) (Nat.le_of_ble_eq_true rfl) ?_
  show Rn_X8_readBetween G (fun v μ' => v = some (.int r.1) ∧ μ' = r.2) 0 [(0, .ref a0), (1, .int l1), (2, .int l2)] [] μ
  obtain ⟨_, h⟩ := Sat_ifp (show Sat (f_X8_readBetween a0 l1 l2 μ) (fun x => x = r) from ⟨_, hx, rfl⟩)
  have J48 : ∀ (a0_48 : Nat) (μ_48 : Mm), Sat (f_X8_readBetween_J48 a0_48 μ_48) (fun x => x = r) → Rn_X8_readBetween G (fun v μ' => v = some (.int r.1) ∧ μ' = r.2) 48 [(0, .ref a0_48)] [] μ_48 := by
    intro a0_48 μ_48 h
    refine r_aload_n dX8_readBetween_48 0 rfl ?_
    refine r_iconst (v := 2) dX8_readBetween_49 (by decide) ?_
    obtain ⟨x50, e50, h⟩ := Sat_bind h
    refine r_cV (t := 9) [.int (2 : Int32)] [] (m_X8_fail a0_48 (2 : Int32) μ_48 e50) ck_X8_fail lk_X8_68 in_X8_fail se_X8_fail (kd_of e50) ⟨rfl, by decide, by decide⟩ rfl rfl (Nat.le_of_ble_eq_true rfl) ⟨by decide, by decide⟩ ⟨Nat.zero_le _, Nat.zero_le _⟩ dX8_readBetween_50 ?_
    refine r_pop dX8_readBetween_53 rfl ?_
    refine r_iconst (v := -1) dX8_readBetween_54 (by decide) ?_
    exact r_ireturn rfl (by rw [← Sat_eq h]; exact ⟨rfl, rfl⟩) dX8_readBetween_55
  refine r_aload_n dX8_readBetween_0 0 rfl ?_
  obtain ⟨x1, e1, h⟩ := Sat_bind h
  refine r_getP fk_X8_15 rfl e1 dX8_readBetween_1 ?_
  obtain ⟨x4, e4, h⟩ := Sat_bind h
  refine r_cV (t := 7) [] [] (m_X6_advance x1 μ e4) ck_X6_advance lk_X8_39 in_X6_advance se_X6_advance (kd_of e4) ⟨rfl, by decide, by decide⟩ rfl rfl (Nat.le_of_ble_eq_true rfl) ⟨by decide, by decide⟩ ⟨Nat.zero_le _, Nat.zero_le _⟩ dX8_readBetween_4 ?_
  refine r_aload_n dX8_readBetween_7 0 rfl ?_
  obtain ⟨x8, e8, h⟩ := Sat_bind h
  refine r_getP fk_X8_15 rfl e8 dX8_readBetween_8 ?_
  obtain ⟨x11, e11, h⟩ := Sat_bind h
  refine r_getI fk_X8_44 rfl e11 dX8_readBetween_11 ?_
  refine r_iconst (v := 2) dX8_readBetween_14 (by decide) ?_
  refine r_icmp_eq 26 dX8_readBetween_15 (by decide) (fun c15 => ?_) (fun c15 => ?_)
  · have h := Sat_pos c15 h
    refine r_aload_n dX8_readBetween_26 0 rfl ?_
    obtain ⟨x27, e27, h⟩ := Sat_bind h
    refine r_getP fk_X8_15 rfl e27 dX8_readBetween_27 ?_
    obtain ⟨x30, e30, h⟩ := Sat_bind h
    refine r_getI fk_X8_183 rfl e30 dX8_readBetween_30 ?_
    refine r_iload_n dX8_readBetween_33 1 rfl ?_
    refine r_icmp_lt 48 dX8_readBetween_34 (by decide) (fun c34 => ?_) (fun c34 => ?_)
    · have h := Sat_pos c34 h
      exact r_sub [0] rfl (J48 a0 x4 h)
    · have h := Sat_neg c34 h
      refine r_aload_n dX8_readBetween_37 0 rfl ?_
      obtain ⟨x38, e38, h⟩ := Sat_bind h
      refine r_getP fk_X8_15 rfl e38 dX8_readBetween_38 ?_
      obtain ⟨x41, e41, h⟩ := Sat_bind h
      refine r_getI fk_X8_183 rfl e41 dX8_readBetween_41 ?_
      refine r_iload_n dX8_readBetween_44 2 rfl ?_
      refine r_icmp_le 56 dX8_readBetween_45 (by decide) (fun c45 => ?_) (fun c45 => ?_)
      · have h := Sat_pos c45 h
        refine r_aload_n dX8_readBetween_56 0 rfl ?_
        obtain ⟨x57, e57, h⟩ := Sat_bind h
        refine r_getP fk_X8_15 rfl e57 dX8_readBetween_57 ?_
        obtain ⟨x60, e60, h⟩ := Sat_bind h
        refine r_getI fk_X8_183 rfl e60 dX8_readBetween_60 ?_
        exact r_ireturn rfl (by rw [← Sat_eq h]; exact ⟨rfl, rfl⟩) dX8_readBetween_63
      · have h := Sat_neg c45 h
        exact r_sub [0] rfl (J48 a0 x4 h)
  · have h := Sat_neg c15 h
    refine r_aload_n dX8_readBetween_18 0 rfl ?_
    refine r_iconst (v := 1) dX8_readBetween_19 (by decide) ?_
    obtain ⟨x20, e20, h⟩ := Sat_bind h
    refine r_cV (t := 9) [.int (1 : Int32)] [] (m_X8_fail a0 (1 : Int32) x4 e20) ck_X8_fail lk_X8_68 in_X8_fail se_X8_fail (kd_of e20) ⟨rfl, by decide, by decide⟩ rfl rfl (Nat.le_of_ble_eq_true rfl) ⟨by decide, by decide⟩ ⟨Nat.zero_le _, Nat.zero_le _⟩ dX8_readBetween_20 ?_
    refine r_pop dX8_readBetween_23 rfl ?_
    refine r_iconst (v := -1) dX8_readBetween_24 (by decide) ?_
    exact r_ireturn rfl (by rw [← Sat_eq h]; exact ⟨rfl, rfl⟩) dX8_readBetween_25
theorem dX8_readDull_0 : decode cX8_readDull 0 = .ok (.aload_n 0, 1) := by decide +kernel
theorem dX8_readDull_1 : decode cX8_readDull 1 = .ok (.invokevirtual 186, 3) := by decide +kernel
theorem dX8_readDull_4 : decode cX8_readDull 4 = .ok (.istore_n 1, 1) := by decide +kernel
theorem dX8_readDull_5 : decode cX8_readDull 5 = .ok (.iload_n 1, 1) := by decide +kernel
theorem dX8_readDull_6 : decode cX8_readDull 6 = .ok (.iconst (-1), 1) := by decide +kernel
theorem dX8_readDull_7 : decode cX8_readDull 7 = .ok (.if_icmp .ne 5, 3) := by decide +kernel
theorem dX8_readDull_10 : decode cX8_readDull 10 = .ok (.iconst 0, 1) := by decide +kernel
theorem dX8_readDull_11 : decode cX8_readDull 11 = .ok (.ireturn, 1) := by decide +kernel
theorem dX8_readDull_12 : decode cX8_readDull 12 = .ok (.aload_n 0, 1) := by decide +kernel
theorem dX8_readDull_13 : decode cX8_readDull 13 = .ok (.iconst 0, 1) := by decide +kernel
theorem dX8_readDull_14 : decode cX8_readDull 14 = .ok (.bipush 27, 2) := by decide +kernel
theorem dX8_readDull_16 : decode cX8_readDull 16 = .ok (.invokevirtual 202, 3) := by decide +kernel
theorem dX8_readDull_19 : decode cX8_readDull 19 = .ok (.istore_n 2, 1) := by decide +kernel
theorem dX8_readDull_20 : decode cX8_readDull 20 = .ok (.iload_n 2, 1) := by decide +kernel
theorem dX8_readDull_21 : decode cX8_readDull 21 = .ok (.iconst (-1), 1) := by decide +kernel
theorem dX8_readDull_22 : decode cX8_readDull 22 = .ok (.if_icmp .ne 5, 3) := by decide +kernel
theorem dX8_readDull_25 : decode cX8_readDull 25 = .ok (.iconst 0, 1) := by decide +kernel
theorem dX8_readDull_26 : decode cX8_readDull 26 = .ok (.ireturn, 1) := by decide +kernel
theorem dX8_readDull_27 : decode cX8_readDull 27 = .ok (.aload_n 0, 1) := by decide +kernel
theorem dX8_readDull_28 : decode cX8_readDull 28 = .ok (.iload_n 2, 1) := by decide +kernel
theorem dX8_readDull_29 : decode cX8_readDull 29 = .ok (.bipush 27, 2) := by decide +kernel
theorem dX8_readDull_31 : decode cX8_readDull 31 = .ok (.invokevirtual 202, 3) := by decide +kernel
theorem dX8_readDull_34 : decode cX8_readDull 34 = .ok (.istore_n 3, 1) := by decide +kernel
theorem dX8_readDull_35 : decode cX8_readDull 35 = .ok (.iload_n 3, 1) := by decide +kernel
theorem dX8_readDull_36 : decode cX8_readDull 36 = .ok (.iconst (-1), 1) := by decide +kernel
theorem dX8_readDull_37 : decode cX8_readDull 37 = .ok (.if_icmp .ne 5, 3) := by decide +kernel
theorem dX8_readDull_40 : decode cX8_readDull 40 = .ok (.iconst 0, 1) := by decide +kernel
theorem dX8_readDull_41 : decode cX8_readDull 41 = .ok (.ireturn, 1) := by decide +kernel
theorem dX8_readDull_42 : decode cX8_readDull 42 = .ok (.aload_n 0, 1) := by decide +kernel
theorem dX8_readDull_43 : decode cX8_readDull 43 = .ok (.getfield 19, 3) := by decide +kernel
theorem dX8_readDull_46 : decode cX8_readDull 46 = .ok (.getfield 158, 3) := by decide +kernel
theorem dX8_readDull_49 : decode cX8_readDull 49 = .ok (.iload_n 1, 1) := by decide +kernel
theorem dX8_readDull_50 : decode cX8_readDull 50 = .ok (.iload_n 2, 1) := by decide +kernel
theorem dX8_readDull_51 : decode cX8_readDull 51 = .ok (.iload_n 3, 1) := by decide +kernel
theorem dX8_readDull_52 : decode cX8_readDull 52 = .ok (.iconst 0, 1) := by decide +kernel
theorem dX8_readDull_53 : decode cX8_readDull 53 = .ok (.invokevirtual 206, 3) := by decide +kernel
theorem dX8_readDull_56 : decode cX8_readDull 56 = .ok (.aload_n 0, 1) := by decide +kernel
theorem dX8_readDull_57 : decode cX8_readDull 57 = .ok (.invokevirtual 180, 3) := by decide +kernel
theorem dX8_readDull_60 : decode cX8_readDull 60 = .ok (.ireturn, 1) := by decide +kernel
noncomputable def f_X8_readDull (a0 : Nat) (μ : Mm) : Option (Int32 × Mm) :=
  if (mm_K μ a0).1 = 9 then (f_X8_readNamed a0 μ).bind fun x1 => if x1.1 = (-1 : Int32) then some ((0 : Int32), x1.2) else (f_X8_readBetween a0 (0 : Int32) (27 : Int32) x1.2).bind fun x16 => if x16.1 = (-1 : Int32) then some ((0 : Int32), x16.2) else (f_X8_readBetween a0 x16.1 (27 : Int32) x16.2).bind fun x31 => if x31.1 = (-1 : Int32) then some ((0 : Int32), x31.2) else (gf_P 9 1 a0 x31.2).bind fun x43 => (gf_P 8 6 x43 x31.2).bind fun x46 => (f_X2_add x46 x1.1 x16.1 x31.1 (0 : Int32) x31.2).bind fun x53 => (f_X8_readMark a0 x53).bind fun x57 => if x57.1 = 0 ∨ x57.1 = 1 then some (x57.1, x57.2) else none else none
abbrev Rn_X8_readDull (G : Gv) (Q : Option Value → Mm → Prop) (pc : Nat) (lv : List (Nat × Value)) (st : List Value) (μ : Mm) : Prop := Rn G RX8 cX8_readDull 4 (some .boolean) "readDull" (rmd 4 0 0) (Zm G 0 0 Q) 0 0 pc lv st μ
set_option maxRecDepth 100000 in
set_option maxHeartbeats 4000000 in
theorem m_X8_readDull {G : Gv} (a0 : Nat) (μ : Mm) {r : (Int32 × Mm)} (hx : f_X8_readDull a0 μ = some r) : Mt G yX8_readDull cX8_readDull 4 (some .boolean) 4 0 0 [.ref a0] μ (fun v μ' => v = some (.int r.1) ∧ μ' = r.2) := by
  refine Mt.of (by decide) (Nat.le_of_ble_eq_true rfl) ?_
  show Rn_X8_readDull G (fun v μ' => v = some (.int r.1) ∧ μ' = r.2) 0 [(0, .ref a0)] [] μ
  obtain ⟨_, h⟩ := Sat_ifp (show Sat (f_X8_readDull a0 μ) (fun x => x = r) from ⟨_, hx, rfl⟩)
  refine r_aload_n dX8_readDull_0 0 rfl ?_
  obtain ⟨x1, e1, h⟩ := Sat_bind h
  refine r_cV (t := 9) [] [] (m_X8_readNamed a0 μ e1) ck_X8_readNamed lk_X8_186 in_X8_readNamed se_X8_readNamed (kd_of e1) ⟨rfl, by decide, by decide⟩ rfl rfl (Nat.le_of_ble_eq_true rfl) ⟨by decide, by decide⟩ ⟨Nat.zero_le _, Nat.zero_le _⟩ dX8_readDull_1 ?_
  refine r_istore_n (lv' := [(1, .int x1.1), (0, .ref a0)]) dX8_readDull_4 rfl (by decide) rfl ?_
  refine r_iload_n dX8_readDull_5 0 rfl ?_
  refine r_iconst (v := -1) dX8_readDull_6 (by decide) ?_
  refine r_icmp_ne 12 dX8_readDull_7 (by decide) (fun c7 => ?_) (fun c7 => ?_)
  · have h := Sat_neg c7 h
    refine r_aload_n dX8_readDull_12 1 rfl ?_
    refine r_iconst (v := 0) dX8_readDull_13 (by decide) ?_
    refine r_bipush (v := 27) dX8_readDull_14 (by decide) ?_
    obtain ⟨x16, e16, h⟩ := Sat_bind h
    refine r_cV (t := 9) [.int (0 : Int32), .int (27 : Int32)] [] (m_X8_readBetween a0 (0 : Int32) (27 : Int32) x1.2 e16) ck_X8_readBetween lk_X8_202 in_X8_readBetween se_X8_readBetween (kd_of e16) ⟨rfl, by decide, by decide⟩ rfl rfl (Nat.le_of_ble_eq_true rfl) ⟨by decide, by decide⟩ ⟨Nat.zero_le _, Nat.zero_le _⟩ dX8_readDull_16 ?_
    refine r_istore_n (lv' := [(2, .int x16.1), (1, .int x1.1), (0, .ref a0)]) dX8_readDull_19 rfl (by decide) rfl ?_
    refine r_iload_n dX8_readDull_20 0 rfl ?_
    refine r_iconst (v := -1) dX8_readDull_21 (by decide) ?_
    refine r_icmp_ne 27 dX8_readDull_22 (by decide) (fun c22 => ?_) (fun c22 => ?_)
    · have h := Sat_neg c22 h
      refine r_aload_n dX8_readDull_27 2 rfl ?_
      refine r_iload_n dX8_readDull_28 0 rfl ?_
      refine r_bipush (v := 27) dX8_readDull_29 (by decide) ?_
      obtain ⟨x31, e31, h⟩ := Sat_bind h
      refine r_cV (t := 9) [.int x16.1, .int (27 : Int32)] [] (m_X8_readBetween a0 x16.1 (27 : Int32) x16.2 e31) ck_X8_readBetween lk_X8_202 in_X8_readBetween se_X8_readBetween (kd_of e31) ⟨rfl, by decide, by decide⟩ rfl rfl (Nat.le_of_ble_eq_true rfl) ⟨by decide, by decide⟩ ⟨Nat.zero_le _, Nat.zero_le _⟩ dX8_readDull_31 ?_
      refine r_istore_n (lv' := [(3, .int x31.1), (2, .int x16.1), (1, .int x1.1), (0, .ref a0)]) dX8_readDull_34 rfl (by decide) rfl ?_
      refine r_iload_n dX8_readDull_35 0 rfl ?_
      refine r_iconst (v := -1) dX8_readDull_36 (by decide) ?_
      refine r_icmp_ne 42 dX8_readDull_37 (by decide) (fun c37 => ?_) (fun c37 => ?_)
      · have h := Sat_neg c37 h
        refine r_aload_n dX8_readDull_42 3 rfl ?_
        obtain ⟨x43, e43, h⟩ := Sat_bind h
        refine r_getP fk_X8_19 rfl e43 dX8_readDull_43 ?_
        obtain ⟨x46, e46, h⟩ := Sat_bind h
        refine r_getP fk_X8_158 rfl e46 dX8_readDull_46 ?_
        refine r_iload_n dX8_readDull_49 2 rfl ?_
        refine r_iload_n dX8_readDull_50 1 rfl ?_
        refine r_iload_n dX8_readDull_51 0 rfl ?_
        refine r_iconst (v := 0) dX8_readDull_52 (by decide) ?_
        obtain ⟨x53, e53, h⟩ := Sat_bind h
        refine r_cV (t := 3) [.int x1.1, .int x16.1, .int x31.1, .int (0 : Int32)] [] (m_X2_add x46 x1.1 x16.1 x31.1 (0 : Int32) x31.2 e53) ck_X2_add lk_X8_206 in_X2_add se_X2_add (kd_of e53) ⟨rfl, by decide, by decide⟩ rfl rfl (Nat.le_of_ble_eq_true rfl) ⟨by decide, by decide⟩ ⟨Nat.zero_le _, Nat.zero_le _⟩ dX8_readDull_53 ?_
        refine r_aload_n dX8_readDull_56 3 rfl ?_
        obtain ⟨x57, e57, h⟩ := Sat_bind h
        refine r_cV (t := 9) [] [] (m_X8_readMark a0 x53 e57) ck_X8_readMark lk_X8_180 in_X8_readMark se_X8_readMark (kd_of e57) ⟨rfl, by decide, by decide⟩ rfl rfl (Nat.le_of_ble_eq_true rfl) ⟨by decide, by decide⟩ ⟨Nat.zero_le _, Nat.zero_le _⟩ dX8_readDull_57 ?_
        obtain ⟨hz, h⟩ := Sat_ifp h
        exact r_zreturn rfl hz (by rw [← Sat_eq h]; exact ⟨rfl, rfl⟩) dX8_readDull_60
      · have h := Sat_pos c37 h
        refine r_iconst (v := 0) dX8_readDull_40 (by decide) ?_
        exact r_zreturn rfl (by decide) (by rw [← Sat_eq h]; exact ⟨rfl, rfl⟩) dX8_readDull_41
    · have h := Sat_pos c22 h
      refine r_iconst (v := 0) dX8_readDull_25 (by decide) ?_
      exact r_zreturn rfl (by decide) (by rw [← Sat_eq h]; exact ⟨rfl, rfl⟩) dX8_readDull_26
  · have h := Sat_pos c7 h
    refine r_iconst (v := 0) dX8_readDull_10 (by decide) ?_
    exact r_zreturn rfl (by decide) (by rw [← Sat_eq h]; exact ⟨rfl, rfl⟩) dX8_readDull_11
theorem dX7_addPerson_0 : decode cX7_addPerson 0 = .ok (.aload_n 0, 1) := by decide +kernel
theorem dX7_addPerson_1 : decode cX7_addPerson 1 = .ok (.getfield 50, 3) := by decide +kernel
theorem dX7_addPerson_4 : decode cX7_addPerson 4 = .ok (.bipush 8, 2) := by decide +kernel
theorem dX7_addPerson_6 : decode cX7_addPerson 6 = .ok (.if_icmp .ge 23, 3) := by decide +kernel
theorem dX7_addPerson_9 : decode cX7_addPerson 9 = .ok (.aload_n 0, 1) := by decide +kernel
theorem dX7_addPerson_10 : decode cX7_addPerson 10 = .ok (.getfield 9, 3) := by decide +kernel
theorem dX7_addPerson_13 : decode cX7_addPerson 13 = .ok (.aload_n 0, 1) := by decide +kernel
theorem dX7_addPerson_14 : decode cX7_addPerson 14 = .ok (.getfield 50, 3) := by decide +kernel
theorem dX7_addPerson_17 : decode cX7_addPerson 17 = .ok (.lload_n 1, 1) := by decide +kernel
theorem dX7_addPerson_18 : decode cX7_addPerson 18 = .ok (.lastore, 1) := by decide +kernel
theorem dX7_addPerson_19 : decode cX7_addPerson 19 = .ok (.aload_n 0, 1) := by decide +kernel
theorem dX7_addPerson_20 : decode cX7_addPerson 20 = .ok (.dup, 1) := by decide +kernel
theorem dX7_addPerson_21 : decode cX7_addPerson 21 = .ok (.getfield 50, 3) := by decide +kernel
theorem dX7_addPerson_24 : decode cX7_addPerson 24 = .ok (.iconst 1, 1) := by decide +kernel
theorem dX7_addPerson_25 : decode cX7_addPerson 25 = .ok (.iadd, 1) := by decide +kernel
theorem dX7_addPerson_26 : decode cX7_addPerson 26 = .ok (.putfield 50, 3) := by decide +kernel
theorem dX7_addPerson_29 : decode cX7_addPerson 29 = .ok (.return_, 1) := by decide +kernel
noncomputable def f_X7_addPerson (a0 : Nat) (l1 : Int64) (μ : Mm) : Option Mm :=
  if (mm_K μ a0).1 = 8 then (gf_I 8 9 a0 μ).bind fun x1 => if (8 : Int32) ≤ x1 then some μ else (gf_P 8 0 a0 μ).bind fun x10 => (gf_I 8 9 a0 μ).bind fun x14 => (pa_L x10 x14 l1 μ).bind fun μ18 => (gf_I 8 9 a0 μ18).bind fun x21 => (pf_I 8 9 a0 (x21 + (1 : Int32)) μ18).bind fun μ26 => some μ26 else none
abbrev Rn_X7_addPerson (G : Gv) (Q : Option Value → Mm → Prop) (pc : Nat) (lv : List (Nat × Value)) (st : List Value) (μ : Mm) : Prop := Rn G RX7 cX7_addPerson 3 none "addPerson" (rmd 0 0 0) (Zm G 0 0 Q) 0 0 pc lv st μ
set_option maxRecDepth 100000 in
set_option maxHeartbeats 4000000 in
theorem m_X7_addPerson {G : Gv} (a0 : Nat) (l1 : Int64) (μ : Mm) {r : Mm} (hx : f_X7_addPerson a0 l1 μ = some r) : Mt G yX7_addPerson cX7_addPerson 3 none 0 0 0 [.ref a0, .long l1] μ (fun v μ' => v = none ∧ μ' = r) := by
  refine Mt.of (by decide) (Nat.le_of_ble_eq_true rfl) ?_
  show Rn_X7_addPerson G (fun v μ' => v = none ∧ μ' = r) 0 [(0, .ref a0), (1, .long l1)] [] μ
  obtain ⟨_, h⟩ := Sat_ifp (show Sat (f_X7_addPerson a0 l1 μ) (fun x => x = r) from ⟨_, hx, rfl⟩)
  refine r_aload_n dX7_addPerson_0 0 rfl ?_
  obtain ⟨x1, e1, h⟩ := Sat_bind h
  refine r_getI fk_X7_50 rfl e1 dX7_addPerson_1 ?_
  refine r_bipush (v := 8) dX7_addPerson_4 (by decide) ?_
  refine r_icmp_ge 29 dX7_addPerson_6 (by decide) (fun c6 => ?_) (fun c6 => ?_)
  · have h := Sat_pos c6 h
    exact r_vreturn rfl (by rw [← Sat_eq h]; exact ⟨rfl, rfl⟩) dX7_addPerson_29
  · have h := Sat_neg c6 h
    refine r_aload_n dX7_addPerson_9 0 rfl ?_
    obtain ⟨x10, e10, h⟩ := Sat_bind h
    refine r_getP fk_X7_9 rfl e10 dX7_addPerson_10 ?_
    refine r_aload_n dX7_addPerson_13 0 rfl ?_
    obtain ⟨x14, e14, h⟩ := Sat_bind h
    refine r_getI fk_X7_50 rfl e14 dX7_addPerson_14 ?_
    refine r_lload_n dX7_addPerson_17 1 rfl ?_
    obtain ⟨μ18, e18, h⟩ := Sat_bind h
    refine r_lastore e18 dX7_addPerson_18 ?_
    refine r_aload_n dX7_addPerson_19 0 rfl ?_
    refine r_dup dX7_addPerson_20 rfl ?_
    obtain ⟨x21, e21, h⟩ := Sat_bind h
    refine r_getI fk_X7_50 rfl e21 dX7_addPerson_21 ?_
    refine r_iconst (v := 1) dX7_addPerson_24 (by decide) ?_
    refine r_iadd dX7_addPerson_25 ?_
    obtain ⟨μ26, e26, h⟩ := Sat_bind h
    refine r_putI fk_X7_50 rfl rfl e26 dX7_addPerson_26 ?_
    exact r_vreturn rfl (by rw [← Sat_eq h]; exact ⟨rfl, rfl⟩) dX7_addPerson_29
theorem dX8_readPerson_0 : decode cX8_readPerson 0 = .ok (.aload_n 0, 1) := by decide +kernel
theorem dX8_readPerson_1 : decode cX8_readPerson 1 = .ok (.getfield 15, 3) := by decide +kernel
theorem dX8_readPerson_4 : decode cX8_readPerson 4 = .ok (.invokevirtual 39, 3) := by decide +kernel
theorem dX8_readPerson_7 : decode cX8_readPerson 7 = .ok (.aload_n 0, 1) := by decide +kernel
theorem dX8_readPerson_8 : decode cX8_readPerson 8 = .ok (.getfield 15, 3) := by decide +kernel
theorem dX8_readPerson_11 : decode cX8_readPerson 11 = .ok (.getfield 44, 3) := by decide +kernel
theorem dX8_readPerson_14 : decode cX8_readPerson 14 = .ok (.iconst 1, 1) := by decide +kernel
theorem dX8_readPerson_15 : decode cX8_readPerson 15 = .ok (.if_icmp .eq 9, 3) := by decide +kernel
theorem dX8_readPerson_18 : decode cX8_readPerson 18 = .ok (.aload_n 0, 1) := by decide +kernel
theorem dX8_readPerson_19 : decode cX8_readPerson 19 = .ok (.iconst 1, 1) := by decide +kernel
theorem dX8_readPerson_20 : decode cX8_readPerson 20 = .ok (.invokevirtual 68, 3) := by decide +kernel
theorem dX8_readPerson_23 : decode cX8_readPerson 23 = .ok (.ireturn, 1) := by decide +kernel
theorem dX8_readPerson_24 : decode cX8_readPerson 24 = .ok (.aload_n 0, 1) := by decide +kernel
theorem dX8_readPerson_25 : decode cX8_readPerson 25 = .ok (.getfield 19, 3) := by decide +kernel
theorem dX8_readPerson_28 : decode cX8_readPerson 28 = .ok (.aload_n 0, 1) := by decide +kernel
theorem dX8_readPerson_29 : decode cX8_readPerson 29 = .ok (.getfield 15, 3) := by decide +kernel
theorem dX8_readPerson_32 : decode cX8_readPerson 32 = .ok (.getfield 164, 3) := by decide +kernel
theorem dX8_readPerson_35 : decode cX8_readPerson 35 = .ok (.invokevirtual 168, 3) := by decide +kernel
theorem dX8_readPerson_38 : decode cX8_readPerson 38 = .ok (.iconst (-1), 1) := by decide +kernel
theorem dX8_readPerson_39 : decode cX8_readPerson 39 = .ok (.if_icmp .eq 9, 3) := by decide +kernel
theorem dX8_readPerson_42 : decode cX8_readPerson 42 = .ok (.aload_n 0, 1) := by decide +kernel
theorem dX8_readPerson_43 : decode cX8_readPerson 43 = .ok (.iconst 3, 1) := by decide +kernel
theorem dX8_readPerson_44 : decode cX8_readPerson 44 = .ok (.invokevirtual 68, 3) := by decide +kernel
theorem dX8_readPerson_47 : decode cX8_readPerson 47 = .ok (.ireturn, 1) := by decide +kernel
theorem dX8_readPerson_48 : decode cX8_readPerson 48 = .ok (.aload_n 0, 1) := by decide +kernel
theorem dX8_readPerson_49 : decode cX8_readPerson 49 = .ok (.getfield 19, 3) := by decide +kernel
theorem dX8_readPerson_52 : decode cX8_readPerson 52 = .ok (.aload_n 0, 1) := by decide +kernel
theorem dX8_readPerson_53 : decode cX8_readPerson 53 = .ok (.getfield 15, 3) := by decide +kernel
theorem dX8_readPerson_56 : decode cX8_readPerson 56 = .ok (.getfield 164, 3) := by decide +kernel
theorem dX8_readPerson_59 : decode cX8_readPerson 59 = .ok (.invokevirtual 172, 3) := by decide +kernel
theorem dX8_readPerson_62 : decode cX8_readPerson 62 = .ok (.aload_n 0, 1) := by decide +kernel
theorem dX8_readPerson_63 : decode cX8_readPerson 63 = .ok (.getfield 15, 3) := by decide +kernel
theorem dX8_readPerson_66 : decode cX8_readPerson 66 = .ok (.invokevirtual 39, 3) := by decide +kernel
theorem dX8_readPerson_69 : decode cX8_readPerson 69 = .ok (.aload_n 0, 1) := by decide +kernel
theorem dX8_readPerson_70 : decode cX8_readPerson 70 = .ok (.getfield 15, 3) := by decide +kernel
theorem dX8_readPerson_73 : decode cX8_readPerson 73 = .ok (.ldc 176, 2) := by decide +kernel
theorem dX8_readPerson_75 : decode cX8_readPerson 75 = .ok (.invokevirtual 118, 3) := by decide +kernel
theorem dX8_readPerson_78 : decode cX8_readPerson 78 = .ok (.ifCond .eq 31, 3) := by decide +kernel
theorem dX8_readPerson_81 : decode cX8_readPerson 81 = .ok (.aload_n 0, 1) := by decide +kernel
theorem dX8_readPerson_82 : decode cX8_readPerson 82 = .ok (.getfield 19, 3) := by decide +kernel
theorem dX8_readPerson_85 : decode cX8_readPerson 85 = .ok (.dup, 1) := by decide +kernel
theorem dX8_readPerson_86 : decode cX8_readPerson 86 = .ok (.getfield 178, 3) := by decide +kernel
theorem dX8_readPerson_89 : decode cX8_readPerson 89 = .ok (.iconst 1, 1) := by decide +kernel
theorem dX8_readPerson_90 : decode cX8_readPerson 90 = .ok (.aload_n 0, 1) := by decide +kernel
theorem dX8_readPerson_91 : decode cX8_readPerson 91 = .ok (.getfield 19, 3) := by decide +kernel
theorem dX8_readPerson_94 : decode cX8_readPerson 94 = .ok (.getfield 147, 3) := by decide +kernel
theorem dX8_readPerson_97 : decode cX8_readPerson 97 = .ok (.iconst 1, 1) := by decide +kernel
theorem dX8_readPerson_98 : decode cX8_readPerson 98 = .ok (.isub, 1) := by decide +kernel
theorem dX8_readPerson_99 : decode cX8_readPerson 99 = .ok (.ishl, 1) := by decide +kernel
theorem dX8_readPerson_100 : decode cX8_readPerson 100 = .ok (.ior, 1) := by decide +kernel
theorem dX8_readPerson_101 : decode cX8_readPerson 101 = .ok (.putfield 178, 3) := by decide +kernel
theorem dX8_readPerson_104 : decode cX8_readPerson 104 = .ok (.aload_n 0, 1) := by decide +kernel
theorem dX8_readPerson_105 : decode cX8_readPerson 105 = .ok (.invokevirtual 180, 3) := by decide +kernel
theorem dX8_readPerson_108 : decode cX8_readPerson 108 = .ok (.ireturn, 1) := by decide +kernel
theorem dX8_readPerson_109 : decode cX8_readPerson 109 = .ok (.aload_n 0, 1) := by decide +kernel
theorem dX8_readPerson_110 : decode cX8_readPerson 110 = .ok (.getfield 15, 3) := by decide +kernel
theorem dX8_readPerson_113 : decode cX8_readPerson 113 = .ok (.getfield 44, 3) := by decide +kernel
theorem dX8_readPerson_116 : decode cX8_readPerson 116 = .ok (.iconst 3, 1) := by decide +kernel
theorem dX8_readPerson_117 : decode cX8_readPerson 117 = .ok (.if_icmp .eq 11, 3) := by decide +kernel
theorem dX8_readPerson_120 : decode cX8_readPerson 120 = .ok (.aload_n 0, 1) := by decide +kernel
theorem dX8_readPerson_121 : decode cX8_readPerson 121 = .ok (.iconst 1, 1) := by decide +kernel
theorem dX8_readPerson_122 : decode cX8_readPerson 122 = .ok (.invokevirtual 68, 3) := by decide +kernel
theorem dX8_readPerson_125 : decode cX8_readPerson 125 = .ok (.ifCond .eq 7, 3) := by decide +kernel
theorem dX8_readPerson_128 : decode cX8_readPerson 128 = .ok (.iconst 1, 1) := by decide +kernel
theorem dX8_readPerson_129 : decode cX8_readPerson 129 = .ok (.goto 4, 3) := by decide +kernel
theorem dX8_readPerson_132 : decode cX8_readPerson 132 = .ok (.iconst 0, 1) := by decide +kernel
theorem dX8_readPerson_133 : decode cX8_readPerson 133 = .ok (.ireturn, 1) := by decide +kernel
noncomputable def f_X8_readPerson_J128  (μ : Mm) : Option (Int32 × Mm) :=
  some ((1 : Int32), μ)
noncomputable def f_X8_readPerson (a0 : Nat) (μ : Mm) : Option (Int32 × Mm) :=
  if (mm_K μ a0).1 = 9 then (gf_P 9 0 a0 μ).bind fun x1 => (f_X6_advance x1 μ).bind fun x4 => (gf_P 9 0 a0 x4).bind fun x8 => (gf_I 7 2 x8 x4).bind fun x11 => if x11 = (1 : Int32) then (gf_P 9 1 a0 x4).bind fun x25 => (gf_P 9 0 a0 x4).bind fun x29 => (gf_L 7 6 x29 x4).bind fun x32 => (f_X7_personOf x25 x32 x4).bind fun x35 => if x35 = (-1 : Int32) then (gf_P 9 1 a0 x4).bind fun x49 => (gf_P 9 0 a0 x4).bind fun x53 => (gf_L 7 6 x53 x4).bind fun x56 => (f_X7_addPerson x49 x56 x4).bind fun x59 => (gf_P 9 0 a0 x59).bind fun x63 => (f_X6_advance x63 x59).bind fun x66 => (gf_P 9 0 a0 x66).bind fun x70 => (f_X6_isWord x70 (mm_S x66 12) x66).bind fun x75 => if x75 = 0 then (gf_P 9 0 a0 x66).bind fun x110 => (gf_I 7 2 x110 x66).bind fun x113 => if x113 = (3 : Int32) then f_X8_readPerson_J128 x66 else (f_X8_fail a0 (1 : Int32) x66).bind fun x122 => if x122.1 = 0 then some ((0 : Int32), x122.2) else f_X8_readPerson_J128 x122.2 else (gf_P 9 1 a0 x66).bind fun x82 => (gf_I 8 10 x82 x66).bind fun x86 => (gf_P 9 1 a0 x66).bind fun x91 => (gf_I 8 9 x91 x66).bind fun x94 => (pf_I 8 10 x82 (x86 ||| ((1 : Int32) <<< ((x94 - (1 : Int32)) &&& 31))) x66).bind fun μ101 => (f_X8_readMark a0 μ101).bind fun x105 => if x105.1 = 0 ∨ x105.1 = 1 then some (x105.1, x105.2) else none else (f_X8_fail a0 (3 : Int32) x4).bind fun x44 => if x44.1 = 0 ∨ x44.1 = 1 then some (x44.1, x44.2) else none else (f_X8_fail a0 (1 : Int32) x4).bind fun x20 => if x20.1 = 0 ∨ x20.1 = 1 then some (x20.1, x20.2) else none else none
abbrev Rn_X8_readPerson (G : Gv) (Q : Option Value → Mm → Prop) (pc : Nat) (lv : List (Nat × Value)) (st : List Value) (μ : Mm) : Prop := Rn G RX8 cX8_readPerson 1 (some .boolean) "readPerson" (rmd 5 0 0) (Zm G 0 0 Q) 0 0 pc lv st μ
set_option maxRecDepth 100000 in
set_option maxHeartbeats 4000000 in
theorem m_X8_readPerson {G : Gv} (a0 : Nat) (μ : Mm) {r : (Int32 × Mm)} (hx : f_X8_readPerson a0 μ = some r) : Mt G yX8_readPerson cX8_readPerson 1 (some .boolean) 5 0 0 [.ref a0] μ (fun v μ' => v = some (.int r.1) ∧ μ' = r.2) := by
  refine Mt.of (by decide) (Nat.le_of_ble_eq_true rfl) ?_
  show Rn_X8_readPerson G (fun v μ' => v = some (.int r.1) ∧ μ' = r.2) 0 [(0, .ref a0)] [] μ
  obtain ⟨_, h⟩ := Sat_ifp (show Sat (f_X8_readPerson a0 μ) (fun x => x = r) from ⟨_, hx, rfl⟩)
  have J128 : ∀ (μ_128 : Mm), Sat (f_X8_readPerson_J128 μ_128) (fun x => x = r) → Rn_X8_readPerson G (fun v μ' => v = some (.int r.1) ∧ μ' = r.2) 128 [] [] μ_128 := by
    intro μ_128 h
    refine r_iconst (v := 1) dX8_readPerson_128 (by decide) ?_
    refine r_goto 133 dX8_readPerson_129 (by decide) ?_
    exact r_zreturn rfl (by decide) (by rw [← Sat_eq h]; exact ⟨rfl, rfl⟩) dX8_readPerson_133
  refine r_aload_n dX8_readPerson_0 0 rfl ?_
  obtain ⟨x1, e1, h⟩ := Sat_bind h
  refine r_getP fk_X8_15 rfl e1 dX8_readPerson_1 ?_
  obtain ⟨x4, e4, h⟩ := Sat_bind h
  refine r_cV (t := 7) [] [] (m_X6_advance x1 μ e4) ck_X6_advance lk_X8_39 in_X6_advance se_X6_advance (kd_of e4) ⟨rfl, by decide, by decide⟩ rfl rfl (Nat.le_of_ble_eq_true rfl) ⟨by decide, by decide⟩ ⟨Nat.zero_le _, Nat.zero_le _⟩ dX8_readPerson_4 ?_
  refine r_aload_n dX8_readPerson_7 0 rfl ?_
  obtain ⟨x8, e8, h⟩ := Sat_bind h
  refine r_getP fk_X8_15 rfl e8 dX8_readPerson_8 ?_
  obtain ⟨x11, e11, h⟩ := Sat_bind h
  refine r_getI fk_X8_44 rfl e11 dX8_readPerson_11 ?_
  refine r_iconst (v := 1) dX8_readPerson_14 (by decide) ?_
  refine r_icmp_eq 24 dX8_readPerson_15 (by decide) (fun c15 => ?_) (fun c15 => ?_)
  · have h := Sat_pos c15 h
    refine r_aload_n dX8_readPerson_24 0 rfl ?_
    obtain ⟨x25, e25, h⟩ := Sat_bind h
    refine r_getP fk_X8_19 rfl e25 dX8_readPerson_25 ?_
    refine r_aload_n dX8_readPerson_28 0 rfl ?_
    obtain ⟨x29, e29, h⟩ := Sat_bind h
    refine r_getP fk_X8_15 rfl e29 dX8_readPerson_29 ?_
    obtain ⟨x32, e32, h⟩ := Sat_bind h
    refine r_getL fk_X8_164 rfl e32 dX8_readPerson_32 ?_
    obtain ⟨x35, e35, h⟩ := Sat_bind h
    refine r_cV (t := 8) [.long x32] [] (m_X7_personOf x25 x32 x4 e35) ck_X7_personOf lk_X8_168 in_X7_personOf se_X7_personOf (kd_of e35) ⟨rfl, by decide, by decide⟩ rfl rfl (Nat.le_of_ble_eq_true rfl) ⟨by decide, by decide⟩ ⟨Nat.zero_le _, Nat.zero_le _⟩ dX8_readPerson_35 ?_
    refine r_iconst (v := -1) dX8_readPerson_38 (by decide) ?_
    refine r_icmp_eq 48 dX8_readPerson_39 (by decide) (fun c39 => ?_) (fun c39 => ?_)
    · have h := Sat_pos c39 h
      refine r_aload_n dX8_readPerson_48 0 rfl ?_
      obtain ⟨x49, e49, h⟩ := Sat_bind h
      refine r_getP fk_X8_19 rfl e49 dX8_readPerson_49 ?_
      refine r_aload_n dX8_readPerson_52 0 rfl ?_
      obtain ⟨x53, e53, h⟩ := Sat_bind h
      refine r_getP fk_X8_15 rfl e53 dX8_readPerson_53 ?_
      obtain ⟨x56, e56, h⟩ := Sat_bind h
      refine r_getL fk_X8_164 rfl e56 dX8_readPerson_56 ?_
      obtain ⟨x59, e59, h⟩ := Sat_bind h
      refine r_cV (t := 8) [.long x56] [] (m_X7_addPerson x49 x56 x4 e59) ck_X7_addPerson lk_X8_172 in_X7_addPerson se_X7_addPerson (kd_of e59) ⟨rfl, by decide, by decide⟩ rfl rfl (Nat.le_of_ble_eq_true rfl) ⟨by decide, by decide⟩ ⟨Nat.zero_le _, Nat.zero_le _⟩ dX8_readPerson_59 ?_
      refine r_aload_n dX8_readPerson_62 0 rfl ?_
      obtain ⟨x63, e63, h⟩ := Sat_bind h
      refine r_getP fk_X8_15 rfl e63 dX8_readPerson_63 ?_
      obtain ⟨x66, e66, h⟩ := Sat_bind h
      refine r_cV (t := 7) [] [] (m_X6_advance x63 x59 e66) ck_X6_advance lk_X8_39 in_X6_advance se_X6_advance (kd_of e66) ⟨rfl, by decide, by decide⟩ rfl rfl (Nat.le_of_ble_eq_true rfl) ⟨by decide, by decide⟩ ⟨Nat.zero_le _, Nat.zero_le _⟩ dX8_readPerson_66 ?_
      refine r_aload_n dX8_readPerson_69 0 rfl ?_
      obtain ⟨x70, e70, h⟩ := Sat_bind h
      refine r_getP fk_X8_15 rfl e70 dX8_readPerson_70 ?_
      refine r_ldcS 12 (by decide) rfl rfl dX8_readPerson_73 ?_
      obtain ⟨x75, e75, h⟩ := Sat_bind h
      refine r_cV (t := 7) [.ref (mm_S x66 12)] [] (m_X6_isWord x70 (mm_S x66 12) x66 e75) ck_X6_isWord lk_X8_118 in_X6_isWord se_X6_isWord (kd_of e75) ⟨rfl, by decide, by decide⟩ rfl rfl (Nat.le_of_ble_eq_true rfl) ⟨by decide, by decide⟩ ⟨Nat.zero_le _, Nat.zero_le _⟩ dX8_readPerson_75 ?_
      refine r_if_eq 109 dX8_readPerson_78 (by decide) (fun c78 => ?_) (fun c78 => ?_)
      · have h := Sat_pos c78 h
        refine r_aload_n dX8_readPerson_109 0 rfl ?_
        obtain ⟨x110, e110, h⟩ := Sat_bind h
        refine r_getP fk_X8_15 rfl e110 dX8_readPerson_110 ?_
        obtain ⟨x113, e113, h⟩ := Sat_bind h
        refine r_getI fk_X8_44 rfl e113 dX8_readPerson_113 ?_
        refine r_iconst (v := 3) dX8_readPerson_116 (by decide) ?_
        refine r_icmp_eq 128 dX8_readPerson_117 (by decide) (fun c117 => ?_) (fun c117 => ?_)
        · have h := Sat_pos c117 h
          exact r_sub [] rfl (J128 x66 h)
        · have h := Sat_neg c117 h
          refine r_aload_n dX8_readPerson_120 0 rfl ?_
          refine r_iconst (v := 1) dX8_readPerson_121 (by decide) ?_
          obtain ⟨x122, e122, h⟩ := Sat_bind h
          refine r_cV (t := 9) [.int (1 : Int32)] [] (m_X8_fail a0 (1 : Int32) x66 e122) ck_X8_fail lk_X8_68 in_X8_fail se_X8_fail (kd_of e122) ⟨rfl, by decide, by decide⟩ rfl rfl (Nat.le_of_ble_eq_true rfl) ⟨by decide, by decide⟩ ⟨Nat.zero_le _, Nat.zero_le _⟩ dX8_readPerson_122 ?_
          refine r_if_eq 132 dX8_readPerson_125 (by decide) (fun c125 => ?_) (fun c125 => ?_)
          · have h := Sat_pos c125 h
            refine r_iconst (v := 0) dX8_readPerson_132 (by decide) ?_
            exact r_zreturn rfl (by decide) (by rw [← Sat_eq h]; exact ⟨rfl, rfl⟩) dX8_readPerson_133
          · have h := Sat_neg c125 h
            exact r_sub [] rfl (J128 x122.2 h)
      · have h := Sat_neg c78 h
        refine r_aload_n dX8_readPerson_81 0 rfl ?_
        obtain ⟨x82, e82, h⟩ := Sat_bind h
        refine r_getP fk_X8_19 rfl e82 dX8_readPerson_82 ?_
        refine r_dup dX8_readPerson_85 rfl ?_
        obtain ⟨x86, e86, h⟩ := Sat_bind h
        refine r_getI fk_X8_178 rfl e86 dX8_readPerson_86 ?_
        refine r_iconst (v := 1) dX8_readPerson_89 (by decide) ?_
        refine r_aload_n dX8_readPerson_90 0 rfl ?_
        obtain ⟨x91, e91, h⟩ := Sat_bind h
        refine r_getP fk_X8_19 rfl e91 dX8_readPerson_91 ?_
        obtain ⟨x94, e94, h⟩ := Sat_bind h
        refine r_getI fk_X8_147 rfl e94 dX8_readPerson_94 ?_
        refine r_iconst (v := 1) dX8_readPerson_97 (by decide) ?_
        refine r_isub dX8_readPerson_98 ?_
        refine r_ishl dX8_readPerson_99 ?_
        refine r_ior dX8_readPerson_100 ?_
        obtain ⟨μ101, e101, h⟩ := Sat_bind h
        refine r_putI fk_X8_178 rfl rfl e101 dX8_readPerson_101 ?_
        refine r_aload_n dX8_readPerson_104 0 rfl ?_
        obtain ⟨x105, e105, h⟩ := Sat_bind h
        refine r_cV (t := 9) [] [] (m_X8_readMark a0 μ101 e105) ck_X8_readMark lk_X8_180 in_X8_readMark se_X8_readMark (kd_of e105) ⟨rfl, by decide, by decide⟩ rfl rfl (Nat.le_of_ble_eq_true rfl) ⟨by decide, by decide⟩ ⟨Nat.zero_le _, Nat.zero_le _⟩ dX8_readPerson_105 ?_
        obtain ⟨hz, h⟩ := Sat_ifp h
        exact r_zreturn rfl hz (by rw [← Sat_eq h]; exact ⟨rfl, rfl⟩) dX8_readPerson_108
    · have h := Sat_neg c39 h
      refine r_aload_n dX8_readPerson_42 0 rfl ?_
      refine r_iconst (v := 3) dX8_readPerson_43 (by decide) ?_
      obtain ⟨x44, e44, h⟩ := Sat_bind h
      refine r_cV (t := 9) [.int (3 : Int32)] [] (m_X8_fail a0 (3 : Int32) x4 e44) ck_X8_fail lk_X8_68 in_X8_fail se_X8_fail (kd_of e44) ⟨rfl, by decide, by decide⟩ rfl rfl (Nat.le_of_ble_eq_true rfl) ⟨by decide, by decide⟩ ⟨Nat.zero_le _, Nat.zero_le _⟩ dX8_readPerson_44 ?_
      obtain ⟨hz, h⟩ := Sat_ifp h
      exact r_zreturn rfl hz (by rw [← Sat_eq h]; exact ⟨rfl, rfl⟩) dX8_readPerson_47
  · have h := Sat_neg c15 h
    refine r_aload_n dX8_readPerson_18 0 rfl ?_
    refine r_iconst (v := 1) dX8_readPerson_19 (by decide) ?_
    obtain ⟨x20, e20, h⟩ := Sat_bind h
    refine r_cV (t := 9) [.int (1 : Int32)] [] (m_X8_fail a0 (1 : Int32) x4 e20) ck_X8_fail lk_X8_68 in_X8_fail se_X8_fail (kd_of e20) ⟨rfl, by decide, by decide⟩ rfl rfl (Nat.le_of_ble_eq_true rfl) ⟨by decide, by decide⟩ ⟨Nat.zero_le _, Nat.zero_le _⟩ dX8_readPerson_20 ?_
    obtain ⟨hz, h⟩ := Sat_ifp h
    exact r_zreturn rfl hz (by rw [← Sat_eq h]; exact ⟨rfl, rfl⟩) dX8_readPerson_23
theorem dX8_readPersonAndDay_0 : decode cX8_readPersonAndDay 0 = .ok (.aload_n 0, 1) := by decide +kernel
theorem dX8_readPersonAndDay_1 : decode cX8_readPersonAndDay 1 = .ok (.invokevirtual 186, 3) := by decide +kernel
theorem dX8_readPersonAndDay_4 : decode cX8_readPersonAndDay 4 = .ok (.istore_n 2, 1) := by decide +kernel
theorem dX8_readPersonAndDay_5 : decode cX8_readPersonAndDay 5 = .ok (.iload_n 2, 1) := by decide +kernel
theorem dX8_readPersonAndDay_6 : decode cX8_readPersonAndDay 6 = .ok (.iconst (-1), 1) := by decide +kernel
theorem dX8_readPersonAndDay_7 : decode cX8_readPersonAndDay 7 = .ok (.if_icmp .ne 5, 3) := by decide +kernel
theorem dX8_readPersonAndDay_10 : decode cX8_readPersonAndDay 10 = .ok (.iconst 0, 1) := by decide +kernel
theorem dX8_readPersonAndDay_11 : decode cX8_readPersonAndDay 11 = .ok (.ireturn, 1) := by decide +kernel
theorem dX8_readPersonAndDay_12 : decode cX8_readPersonAndDay 12 = .ok (.aload_n 0, 1) := by decide +kernel
theorem dX8_readPersonAndDay_13 : decode cX8_readPersonAndDay 13 = .ok (.iconst 0, 1) := by decide +kernel
theorem dX8_readPersonAndDay_14 : decode cX8_readPersonAndDay 14 = .ok (.bipush 27, 2) := by decide +kernel
theorem dX8_readPersonAndDay_16 : decode cX8_readPersonAndDay 16 = .ok (.invokevirtual 202, 3) := by decide +kernel
theorem dX8_readPersonAndDay_19 : decode cX8_readPersonAndDay 19 = .ok (.istore_n 3, 1) := by decide +kernel
theorem dX8_readPersonAndDay_20 : decode cX8_readPersonAndDay 20 = .ok (.iload_n 3, 1) := by decide +kernel
theorem dX8_readPersonAndDay_21 : decode cX8_readPersonAndDay 21 = .ok (.iconst (-1), 1) := by decide +kernel
theorem dX8_readPersonAndDay_22 : decode cX8_readPersonAndDay 22 = .ok (.if_icmp .ne 5, 3) := by decide +kernel
theorem dX8_readPersonAndDay_25 : decode cX8_readPersonAndDay 25 = .ok (.iconst 0, 1) := by decide +kernel
theorem dX8_readPersonAndDay_26 : decode cX8_readPersonAndDay 26 = .ok (.ireturn, 1) := by decide +kernel
theorem dX8_readPersonAndDay_27 : decode cX8_readPersonAndDay 27 = .ok (.aload_n 1, 1) := by decide +kernel
theorem dX8_readPersonAndDay_28 : decode cX8_readPersonAndDay 28 = .ok (.iload_n 2, 1) := by decide +kernel
theorem dX8_readPersonAndDay_29 : decode cX8_readPersonAndDay 29 = .ok (.iload_n 3, 1) := by decide +kernel
theorem dX8_readPersonAndDay_30 : decode cX8_readPersonAndDay 30 = .ok (.iconst 0, 1) := by decide +kernel
theorem dX8_readPersonAndDay_31 : decode cX8_readPersonAndDay 31 = .ok (.iconst 0, 1) := by decide +kernel
theorem dX8_readPersonAndDay_32 : decode cX8_readPersonAndDay 32 = .ok (.invokevirtual 206, 3) := by decide +kernel
theorem dX8_readPersonAndDay_35 : decode cX8_readPersonAndDay 35 = .ok (.aload_n 0, 1) := by decide +kernel
theorem dX8_readPersonAndDay_36 : decode cX8_readPersonAndDay 36 = .ok (.invokevirtual 180, 3) := by decide +kernel
theorem dX8_readPersonAndDay_39 : decode cX8_readPersonAndDay 39 = .ok (.ireturn, 1) := by decide +kernel
noncomputable def f_X8_readPersonAndDay (a0 : Nat) (l1 : Nat) (μ : Mm) : Option (Int32 × Mm) :=
  if (mm_K μ a0).1 = 9 then (f_X8_readNamed a0 μ).bind fun x1 => if x1.1 = (-1 : Int32) then some ((0 : Int32), x1.2) else (f_X8_readBetween a0 (0 : Int32) (27 : Int32) x1.2).bind fun x16 => if x16.1 = (-1 : Int32) then some ((0 : Int32), x16.2) else (f_X2_add l1 x1.1 x16.1 (0 : Int32) (0 : Int32) x16.2).bind fun x32 => (f_X8_readMark a0 x32).bind fun x36 => if x36.1 = 0 ∨ x36.1 = 1 then some (x36.1, x36.2) else none else none
abbrev Rn_X8_readPersonAndDay (G : Gv) (Q : Option Value → Mm → Prop) (pc : Nat) (lv : List (Nat × Value)) (st : List Value) (μ : Mm) : Prop := Rn G RX8 cX8_readPersonAndDay 4 (some .boolean) "readPersonAndDay" (rmd 4 0 0) (Zm G 0 0 Q) 0 0 pc lv st μ
set_option maxRecDepth 100000 in
set_option maxHeartbeats 4000000 in
theorem m_X8_readPersonAndDay {G : Gv} (a0 : Nat) (l1 : Nat) (μ : Mm) {r : (Int32 × Mm)} (hx : f_X8_readPersonAndDay a0 l1 μ = some r) : Mt G yX8_readPersonAndDay cX8_readPersonAndDay 4 (some .boolean) 4 0 0 [.ref a0, .ref l1] μ (fun v μ' => v = some (.int r.1) ∧ μ' = r.2) := by
  refine Mt.of (by decide) (Nat.le_of_ble_eq_true rfl) ?_
  show Rn_X8_readPersonAndDay G (fun v μ' => v = some (.int r.1) ∧ μ' = r.2) 0 [(0, .ref a0), (1, .ref l1)] [] μ
  obtain ⟨_, h⟩ := Sat_ifp (show Sat (f_X8_readPersonAndDay a0 l1 μ) (fun x => x = r) from ⟨_, hx, rfl⟩)
  refine r_aload_n dX8_readPersonAndDay_0 0 rfl ?_
  obtain ⟨x1, e1, h⟩ := Sat_bind h
  refine r_cV (t := 9) [] [] (m_X8_readNamed a0 μ e1) ck_X8_readNamed lk_X8_186 in_X8_readNamed se_X8_readNamed (kd_of e1) ⟨rfl, by decide, by decide⟩ rfl rfl (Nat.le_of_ble_eq_true rfl) ⟨by decide, by decide⟩ ⟨Nat.zero_le _, Nat.zero_le _⟩ dX8_readPersonAndDay_1 ?_
  refine r_istore_n (lv' := [(2, .int x1.1), (0, .ref a0), (1, .ref l1)]) dX8_readPersonAndDay_4 rfl (by decide) rfl ?_
  refine r_iload_n dX8_readPersonAndDay_5 0 rfl ?_
  refine r_iconst (v := -1) dX8_readPersonAndDay_6 (by decide) ?_
  refine r_icmp_ne 12 dX8_readPersonAndDay_7 (by decide) (fun c7 => ?_) (fun c7 => ?_)
  · have h := Sat_neg c7 h
    refine r_aload_n dX8_readPersonAndDay_12 1 rfl ?_
    refine r_iconst (v := 0) dX8_readPersonAndDay_13 (by decide) ?_
    refine r_bipush (v := 27) dX8_readPersonAndDay_14 (by decide) ?_
    obtain ⟨x16, e16, h⟩ := Sat_bind h
    refine r_cV (t := 9) [.int (0 : Int32), .int (27 : Int32)] [] (m_X8_readBetween a0 (0 : Int32) (27 : Int32) x1.2 e16) ck_X8_readBetween lk_X8_202 in_X8_readBetween se_X8_readBetween (kd_of e16) ⟨rfl, by decide, by decide⟩ rfl rfl (Nat.le_of_ble_eq_true rfl) ⟨by decide, by decide⟩ ⟨Nat.zero_le _, Nat.zero_le _⟩ dX8_readPersonAndDay_16 ?_
    refine r_istore_n (lv' := [(3, .int x16.1), (2, .int x1.1), (0, .ref a0), (1, .ref l1)]) dX8_readPersonAndDay_19 rfl (by decide) rfl ?_
    refine r_iload_n dX8_readPersonAndDay_20 0 rfl ?_
    refine r_iconst (v := -1) dX8_readPersonAndDay_21 (by decide) ?_
    refine r_icmp_ne 27 dX8_readPersonAndDay_22 (by decide) (fun c22 => ?_) (fun c22 => ?_)
    · have h := Sat_neg c22 h
      refine r_aload_n dX8_readPersonAndDay_27 3 rfl ?_
      refine r_iload_n dX8_readPersonAndDay_28 1 rfl ?_
      refine r_iload_n dX8_readPersonAndDay_29 0 rfl ?_
      refine r_iconst (v := 0) dX8_readPersonAndDay_30 (by decide) ?_
      refine r_iconst (v := 0) dX8_readPersonAndDay_31 (by decide) ?_
      obtain ⟨x32, e32, h⟩ := Sat_bind h
      refine r_cV (t := 3) [.int x1.1, .int x16.1, .int (0 : Int32), .int (0 : Int32)] [] (m_X2_add l1 x1.1 x16.1 (0 : Int32) (0 : Int32) x16.2 e32) ck_X2_add lk_X8_206 in_X2_add se_X2_add (kd_of e32) ⟨rfl, by decide, by decide⟩ rfl rfl (Nat.le_of_ble_eq_true rfl) ⟨by decide, by decide⟩ ⟨Nat.zero_le _, Nat.zero_le _⟩ dX8_readPersonAndDay_32 ?_
      refine r_aload_n dX8_readPersonAndDay_35 2 rfl ?_
      obtain ⟨x36, e36, h⟩ := Sat_bind h
      refine r_cV (t := 9) [] [] (m_X8_readMark a0 x32 e36) ck_X8_readMark lk_X8_180 in_X8_readMark se_X8_readMark (kd_of e36) ⟨rfl, by decide, by decide⟩ rfl rfl (Nat.le_of_ble_eq_true rfl) ⟨by decide, by decide⟩ ⟨Nat.zero_le _, Nat.zero_le _⟩ dX8_readPersonAndDay_36 ?_
      obtain ⟨hz, h⟩ := Sat_ifp h
      exact r_zreturn rfl hz (by rw [← Sat_eq h]; exact ⟨rfl, rfl⟩) dX8_readPersonAndDay_39
    · have h := Sat_pos c22 h
      refine r_iconst (v := 0) dX8_readPersonAndDay_25 (by decide) ?_
      exact r_zreturn rfl (by decide) (by rw [← Sat_eq h]; exact ⟨rfl, rfl⟩) dX8_readPersonAndDay_26
  · have h := Sat_pos c7 h
    refine r_iconst (v := 0) dX8_readPersonAndDay_10 (by decide) ?_
    exact r_zreturn rfl (by decide) (by rw [← Sat_eq h]; exact ⟨rfl, rfl⟩) dX8_readPersonAndDay_11
theorem dX8_readSetting_0 : decode cX8_readSetting 0 = .ok (.iload_n 1, 1) := by decide +kernel
theorem dX8_readSetting_1 : decode cX8_readSetting 1 = .ok (.bipush 11, 2) := by decide +kernel
theorem dX8_readSetting_3 : decode cX8_readSetting 3 = .ok (.if_icmp .ne 7, 3) := by decide +kernel
theorem dX8_readSetting_6 : decode cX8_readSetting 6 = .ok (.iconst 1, 1) := by decide +kernel
theorem dX8_readSetting_7 : decode cX8_readSetting 7 = .ok (.goto 4, 3) := by decide +kernel
theorem dX8_readSetting_10 : decode cX8_readSetting 10 = .ok (.iconst 0, 1) := by decide +kernel
theorem dX8_readSetting_11 : decode cX8_readSetting 11 = .ok (.istore_n 2, 1) := by decide +kernel
theorem dX8_readSetting_12 : decode cX8_readSetting 12 = .ok (.iload_n 2, 1) := by decide +kernel
theorem dX8_readSetting_13 : decode cX8_readSetting 13 = .ok (.ifCond .eq 13, 3) := by decide +kernel
theorem dX8_readSetting_16 : decode cX8_readSetting 16 = .ok (.aload_n 0, 1) := by decide +kernel
theorem dX8_readSetting_17 : decode cX8_readSetting 17 = .ok (.iconst 1, 1) := by decide +kernel
theorem dX8_readSetting_18 : decode cX8_readSetting 18 = .ok (.bipush 28, 2) := by decide +kernel
theorem dX8_readSetting_20 : decode cX8_readSetting 20 = .ok (.invokevirtual 202, 3) := by decide +kernel
theorem dX8_readSetting_23 : decode cX8_readSetting 23 = .ok (.goto 11, 3) := by decide +kernel
theorem dX8_readSetting_26 : decode cX8_readSetting 26 = .ok (.aload_n 0, 1) := by decide +kernel
theorem dX8_readSetting_27 : decode cX8_readSetting 27 = .ok (.iconst 0, 1) := by decide +kernel
theorem dX8_readSetting_28 : decode cX8_readSetting 28 = .ok (.sipush 4095, 3) := by decide +kernel
theorem dX8_readSetting_31 : decode cX8_readSetting 31 = .ok (.invokevirtual 202, 3) := by decide +kernel
theorem dX8_readSetting_34 : decode cX8_readSetting 34 = .ok (.istore_n 3, 1) := by decide +kernel
theorem dX8_readSetting_35 : decode cX8_readSetting 35 = .ok (.iload_n 3, 1) := by decide +kernel
theorem dX8_readSetting_36 : decode cX8_readSetting 36 = .ok (.iconst (-1), 1) := by decide +kernel
theorem dX8_readSetting_37 : decode cX8_readSetting 37 = .ok (.if_icmp .ne 5, 3) := by decide +kernel
theorem dX8_readSetting_40 : decode cX8_readSetting 40 = .ok (.iconst 0, 1) := by decide +kernel
theorem dX8_readSetting_41 : decode cX8_readSetting 41 = .ok (.ireturn, 1) := by decide +kernel
theorem dX8_readSetting_42 : decode cX8_readSetting 42 = .ok (.iload_n 2, 1) := by decide +kernel
theorem dX8_readSetting_43 : decode cX8_readSetting 43 = .ok (.ifCond .eq 14, 3) := by decide +kernel
theorem dX8_readSetting_46 : decode cX8_readSetting 46 = .ok (.aload_n 0, 1) := by decide +kernel
theorem dX8_readSetting_47 : decode cX8_readSetting 47 = .ok (.getfield 19, 3) := by decide +kernel
theorem dX8_readSetting_50 : decode cX8_readSetting 50 = .ok (.iload_n 3, 1) := by decide +kernel
theorem dX8_readSetting_51 : decode cX8_readSetting 51 = .ok (.putfield 216, 3) := by decide +kernel
theorem dX8_readSetting_54 : decode cX8_readSetting 54 = .ok (.goto 28, 3) := by decide +kernel
theorem dX8_readSetting_57 : decode cX8_readSetting 57 = .ok (.iload_n 1, 1) := by decide +kernel
theorem dX8_readSetting_58 : decode cX8_readSetting 58 = .ok (.bipush 9, 2) := by decide +kernel
theorem dX8_readSetting_60 : decode cX8_readSetting 60 = .ok (.if_icmp .ne 14, 3) := by decide +kernel
theorem dX8_readSetting_63 : decode cX8_readSetting 63 = .ok (.aload_n 0, 1) := by decide +kernel
theorem dX8_readSetting_64 : decode cX8_readSetting 64 = .ok (.getfield 19, 3) := by decide +kernel
theorem dX8_readSetting_67 : decode cX8_readSetting 67 = .ok (.iload_n 3, 1) := by decide +kernel
theorem dX8_readSetting_68 : decode cX8_readSetting 68 = .ok (.putfield 218, 3) := by decide +kernel
theorem dX8_readSetting_71 : decode cX8_readSetting 71 = .ok (.goto 11, 3) := by decide +kernel
theorem dX8_readSetting_74 : decode cX8_readSetting 74 = .ok (.aload_n 0, 1) := by decide +kernel
theorem dX8_readSetting_75 : decode cX8_readSetting 75 = .ok (.getfield 19, 3) := by decide +kernel
theorem dX8_readSetting_78 : decode cX8_readSetting 78 = .ok (.iload_n 3, 1) := by decide +kernel
theorem dX8_readSetting_79 : decode cX8_readSetting 79 = .ok (.putfield 220, 3) := by decide +kernel
theorem dX8_readSetting_82 : decode cX8_readSetting 82 = .ok (.aload_n 0, 1) := by decide +kernel
theorem dX8_readSetting_83 : decode cX8_readSetting 83 = .ok (.invokevirtual 180, 3) := by decide +kernel
theorem dX8_readSetting_86 : decode cX8_readSetting 86 = .ok (.ireturn, 1) := by decide +kernel
noncomputable def f_X8_readSetting_J82 (a0 : Nat) (μ : Mm) : Option (Int32 × Mm) :=
  (f_X8_readMark a0 μ).bind fun x83 => if x83.1 = 0 ∨ x83.1 = 1 then some (x83.1, x83.2) else none
noncomputable def f_X8_readSetting_J34 (a0 : Nat) (l1 : Int32) (l2 : Int32) (k0 : Int32) (μ : Mm) : Option (Int32 × Mm) :=
  if k0 = (-1 : Int32) then some ((0 : Int32), μ) else if l2 = 0 then if l1 = (9 : Int32) then (gf_P 9 1 a0 μ).bind fun x64 => (pf_I 8 13 x64 k0 μ).bind fun μ68 => f_X8_readSetting_J82 a0 μ68 else (gf_P 9 1 a0 μ).bind fun x75 => (pf_I 8 14 x75 k0 μ).bind fun μ79 => f_X8_readSetting_J82 a0 μ79 else (gf_P 9 1 a0 μ).bind fun x47 => (pf_I 8 15 x47 k0 μ).bind fun μ51 => f_X8_readSetting_J82 a0 μ51
noncomputable def f_X8_readSetting_J11 (a0 : Nat) (l1 : Int32) (k0 : Int32) (μ : Mm) : Option (Int32 × Mm) :=
  if k0 = 0 then (f_X8_readBetween a0 (0 : Int32) (4095 : Int32) μ).bind fun x31 => f_X8_readSetting_J34 a0 l1 k0 x31.1 x31.2 else (f_X8_readBetween a0 (1 : Int32) (28 : Int32) μ).bind fun x20 => f_X8_readSetting_J34 a0 l1 k0 x20.1 x20.2
noncomputable def f_X8_readSetting (a0 : Nat) (l1 : Int32) (μ : Mm) : Option (Int32 × Mm) :=
  if (mm_K μ a0).1 = 9 then if l1 = (11 : Int32) then f_X8_readSetting_J11 a0 l1 (1 : Int32) μ else f_X8_readSetting_J11 a0 l1 (0 : Int32) μ else none
abbrev Rn_X8_readSetting (G : Gv) (Q : Option Value → Mm → Prop) (pc : Nat) (lv : List (Nat × Value)) (st : List Value) (μ : Mm) : Prop := Rn G RX8 cX8_readSetting 4 (some .boolean) "readSetting" (rmd 4 0 0) (Zm G 0 0 Q) 0 0 pc lv st μ
set_option maxRecDepth 100000 in
set_option maxHeartbeats 4000000 in
theorem m_X8_readSetting {G : Gv} (a0 : Nat) (l1 : Int32) (μ : Mm) {r : (Int32 × Mm)} (hx : f_X8_readSetting a0 l1 μ = some r) : Mt G yX8_readSetting cX8_readSetting 4 (some .boolean) 4 0 0 [.ref a0, .int l1] μ (fun v μ' => v = some (.int r.1) ∧ μ' = r.2) := by
  refine Mt.of (by decide) (Nat.le_of_ble_eq_true rfl) ?_
  show Rn_X8_readSetting G (fun v μ' => v = some (.int r.1) ∧ μ' = r.2) 0 [(0, .ref a0), (1, .int l1)] [] μ
  obtain ⟨_, h⟩ := Sat_ifp (show Sat (f_X8_readSetting a0 l1 μ) (fun x => x = r) from ⟨_, hx, rfl⟩)
  have J82 : ∀ (a0_82 : Nat) (μ_82 : Mm), Sat (f_X8_readSetting_J82 a0_82 μ_82) (fun x => x = r) → Rn_X8_readSetting G (fun v μ' => v = some (.int r.1) ∧ μ' = r.2) 82 [(0, .ref a0_82)] [] μ_82 := by
    intro a0_82 μ_82 h
    refine r_aload_n dX8_readSetting_82 0 rfl ?_
    obtain ⟨x83, e83, h⟩ := Sat_bind h
    refine r_cV (t := 9) [] [] (m_X8_readMark a0_82 μ_82 e83) ck_X8_readMark lk_X8_180 in_X8_readMark se_X8_readMark (kd_of e83) ⟨rfl, by decide, by decide⟩ rfl rfl (Nat.le_of_ble_eq_true rfl) ⟨by decide, by decide⟩ ⟨Nat.zero_le _, Nat.zero_le _⟩ dX8_readSetting_83 ?_
    obtain ⟨hz, h⟩ := Sat_ifp h
    exact r_zreturn rfl hz (by rw [← Sat_eq h]; exact ⟨rfl, rfl⟩) dX8_readSetting_86
  have J34 : ∀ (a0_34 : Nat) (l1_34 : Int32) (l2_34 : Int32) (k0_34 : Int32) (μ_34 : Mm), Sat (f_X8_readSetting_J34 a0_34 l1_34 l2_34 k0_34 μ_34) (fun x => x = r) → Rn_X8_readSetting G (fun v μ' => v = some (.int r.1) ∧ μ' = r.2) 34 [(0, .ref a0_34), (1, .int l1_34), (2, .int l2_34)] [.int k0_34] μ_34 := by
    intro a0_34 l1_34 l2_34 k0_34 μ_34 h
    refine r_istore_n (lv' := [(3, .int k0_34), (0, .ref a0_34), (1, .int l1_34), (2, .int l2_34)]) dX8_readSetting_34 rfl (by decide) rfl ?_
    refine r_iload_n dX8_readSetting_35 0 rfl ?_
    refine r_iconst (v := -1) dX8_readSetting_36 (by decide) ?_
    refine r_icmp_ne 42 dX8_readSetting_37 (by decide) (fun c37 => ?_) (fun c37 => ?_)
    · have h := Sat_neg c37 h
      refine r_iload_n dX8_readSetting_42 3 rfl ?_
      refine r_if_eq 57 dX8_readSetting_43 (by decide) (fun c43 => ?_) (fun c43 => ?_)
      · have h := Sat_pos c43 h
        refine r_iload_n dX8_readSetting_57 2 rfl ?_
        refine r_bipush (v := 9) dX8_readSetting_58 (by decide) ?_
        refine r_icmp_ne 74 dX8_readSetting_60 (by decide) (fun c60 => ?_) (fun c60 => ?_)
        · have h := Sat_neg c60 h
          refine r_aload_n dX8_readSetting_74 1 rfl ?_
          obtain ⟨x75, e75, h⟩ := Sat_bind h
          refine r_getP fk_X8_19 rfl e75 dX8_readSetting_75 ?_
          refine r_iload_n dX8_readSetting_78 0 rfl ?_
          obtain ⟨μ79, e79, h⟩ := Sat_bind h
          refine r_putI fk_X8_220 rfl rfl e79 dX8_readSetting_79 ?_
          exact r_sub [1] rfl (J82 a0_34 μ79 h)
        · have h := Sat_pos c60 h
          refine r_aload_n dX8_readSetting_63 1 rfl ?_
          obtain ⟨x64, e64, h⟩ := Sat_bind h
          refine r_getP fk_X8_19 rfl e64 dX8_readSetting_64 ?_
          refine r_iload_n dX8_readSetting_67 0 rfl ?_
          obtain ⟨μ68, e68, h⟩ := Sat_bind h
          refine r_putI fk_X8_218 rfl rfl e68 dX8_readSetting_68 ?_
          refine r_goto 82 dX8_readSetting_71 (by decide) ?_
          exact r_sub [1] rfl (J82 a0_34 μ68 h)
      · have h := Sat_neg c43 h
        refine r_aload_n dX8_readSetting_46 1 rfl ?_
        obtain ⟨x47, e47, h⟩ := Sat_bind h
        refine r_getP fk_X8_19 rfl e47 dX8_readSetting_47 ?_
        refine r_iload_n dX8_readSetting_50 0 rfl ?_
        obtain ⟨μ51, e51, h⟩ := Sat_bind h
        refine r_putI fk_X8_216 rfl rfl e51 dX8_readSetting_51 ?_
        refine r_goto 82 dX8_readSetting_54 (by decide) ?_
        exact r_sub [1] rfl (J82 a0_34 μ51 h)
    · have h := Sat_pos c37 h
      refine r_iconst (v := 0) dX8_readSetting_40 (by decide) ?_
      exact r_zreturn rfl (by decide) (by rw [← Sat_eq h]; exact ⟨rfl, rfl⟩) dX8_readSetting_41
  have J11 : ∀ (a0_11 : Nat) (l1_11 : Int32) (k0_11 : Int32) (μ_11 : Mm), Sat (f_X8_readSetting_J11 a0_11 l1_11 k0_11 μ_11) (fun x => x = r) → Rn_X8_readSetting G (fun v μ' => v = some (.int r.1) ∧ μ' = r.2) 11 [(0, .ref a0_11), (1, .int l1_11)] [.int k0_11] μ_11 := by
    intro a0_11 l1_11 k0_11 μ_11 h
    refine r_istore_n (lv' := [(2, .int k0_11), (0, .ref a0_11), (1, .int l1_11)]) dX8_readSetting_11 rfl (by decide) rfl ?_
    refine r_iload_n dX8_readSetting_12 0 rfl ?_
    refine r_if_eq 26 dX8_readSetting_13 (by decide) (fun c13 => ?_) (fun c13 => ?_)
    · have h := Sat_pos c13 h
      refine r_aload_n dX8_readSetting_26 1 rfl ?_
      refine r_iconst (v := 0) dX8_readSetting_27 (by decide) ?_
      refine r_sipush (v := 4095) dX8_readSetting_28 (by decide) ?_
      obtain ⟨x31, e31, h⟩ := Sat_bind h
      refine r_cV (t := 9) [.int (0 : Int32), .int (4095 : Int32)] [] (m_X8_readBetween a0_11 (0 : Int32) (4095 : Int32) μ_11 e31) ck_X8_readBetween lk_X8_202 in_X8_readBetween se_X8_readBetween (kd_of e31) ⟨rfl, by decide, by decide⟩ rfl rfl (Nat.le_of_ble_eq_true rfl) ⟨by decide, by decide⟩ ⟨Nat.zero_le _, Nat.zero_le _⟩ dX8_readSetting_31 ?_
      exact r_sub [1, 2, 0] rfl (J34 a0_11 l1_11 k0_11 x31.1 x31.2 h)
    · have h := Sat_neg c13 h
      refine r_aload_n dX8_readSetting_16 1 rfl ?_
      refine r_iconst (v := 1) dX8_readSetting_17 (by decide) ?_
      refine r_bipush (v := 28) dX8_readSetting_18 (by decide) ?_
      obtain ⟨x20, e20, h⟩ := Sat_bind h
      refine r_cV (t := 9) [.int (1 : Int32), .int (28 : Int32)] [] (m_X8_readBetween a0_11 (1 : Int32) (28 : Int32) μ_11 e20) ck_X8_readBetween lk_X8_202 in_X8_readBetween se_X8_readBetween (kd_of e20) ⟨rfl, by decide, by decide⟩ rfl rfl (Nat.le_of_ble_eq_true rfl) ⟨by decide, by decide⟩ ⟨Nat.zero_le _, Nat.zero_le _⟩ dX8_readSetting_20 ?_
      refine r_goto 34 dX8_readSetting_23 (by decide) ?_
      exact r_sub [1, 2, 0] rfl (J34 a0_11 l1_11 k0_11 x20.1 x20.2 h)
  refine r_iload_n dX8_readSetting_0 1 rfl ?_
  refine r_bipush (v := 11) dX8_readSetting_1 (by decide) ?_
  refine r_icmp_ne 10 dX8_readSetting_3 (by decide) (fun c3 => ?_) (fun c3 => ?_)
  · have h := Sat_neg c3 h
    refine r_iconst (v := 0) dX8_readSetting_10 (by decide) ?_
    exact r_sub [0, 1] rfl (J11 a0 l1 (0 : Int32) μ h)
  · have h := Sat_pos c3 h
    refine r_iconst (v := 1) dX8_readSetting_6 (by decide) ?_
    refine r_goto 11 dX8_readSetting_7 (by decide) ?_
    exact r_sub [0, 1] rfl (J11 a0 l1 (1 : Int32) μ h)
theorem dX8_readTalk_0 : decode cX8_readTalk 0 = .ok (.aload_n 0, 1) := by decide +kernel
theorem dX8_readTalk_1 : decode cX8_readTalk 1 = .ok (.invokevirtual 186, 3) := by decide +kernel
theorem dX8_readTalk_4 : decode cX8_readTalk 4 = .ok (.istore_n 1, 1) := by decide +kernel
theorem dX8_readTalk_5 : decode cX8_readTalk 5 = .ok (.iload_n 1, 1) := by decide +kernel
theorem dX8_readTalk_6 : decode cX8_readTalk 6 = .ok (.iconst (-1), 1) := by decide +kernel
theorem dX8_readTalk_7 : decode cX8_readTalk 7 = .ok (.if_icmp .ne 5, 3) := by decide +kernel
theorem dX8_readTalk_10 : decode cX8_readTalk 10 = .ok (.iconst 0, 1) := by decide +kernel
theorem dX8_readTalk_11 : decode cX8_readTalk 11 = .ok (.ireturn, 1) := by decide +kernel
theorem dX8_readTalk_12 : decode cX8_readTalk 12 = .ok (.aload_n 0, 1) := by decide +kernel
theorem dX8_readTalk_13 : decode cX8_readTalk 13 = .ok (.invokevirtual 186, 3) := by decide +kernel
theorem dX8_readTalk_16 : decode cX8_readTalk 16 = .ok (.istore_n 2, 1) := by decide +kernel
theorem dX8_readTalk_17 : decode cX8_readTalk 17 = .ok (.iload_n 2, 1) := by decide +kernel
theorem dX8_readTalk_18 : decode cX8_readTalk 18 = .ok (.iconst (-1), 1) := by decide +kernel
theorem dX8_readTalk_19 : decode cX8_readTalk 19 = .ok (.if_icmp .ne 5, 3) := by decide +kernel
theorem dX8_readTalk_22 : decode cX8_readTalk 22 = .ok (.iconst 0, 1) := by decide +kernel
theorem dX8_readTalk_23 : decode cX8_readTalk 23 = .ok (.ireturn, 1) := by decide +kernel
theorem dX8_readTalk_24 : decode cX8_readTalk 24 = .ok (.iload_n 2, 1) := by decide +kernel
theorem dX8_readTalk_25 : decode cX8_readTalk 25 = .ok (.iload_n 1, 1) := by decide +kernel
theorem dX8_readTalk_26 : decode cX8_readTalk 26 = .ok (.if_icmp .ne 9, 3) := by decide +kernel
theorem dX8_readTalk_29 : decode cX8_readTalk 29 = .ok (.aload_n 0, 1) := by decide +kernel
theorem dX8_readTalk_30 : decode cX8_readTalk 30 = .ok (.iconst 3, 1) := by decide +kernel
theorem dX8_readTalk_31 : decode cX8_readTalk 31 = .ok (.invokevirtual 68, 3) := by decide +kernel
theorem dX8_readTalk_34 : decode cX8_readTalk 34 = .ok (.ireturn, 1) := by decide +kernel
theorem dX8_readTalk_35 : decode cX8_readTalk 35 = .ok (.aload_n 0, 1) := by decide +kernel
theorem dX8_readTalk_36 : decode cX8_readTalk 36 = .ok (.iconst 1, 1) := by decide +kernel
theorem dX8_readTalk_37 : decode cX8_readTalk 37 = .ok (.bipush 28, 2) := by decide +kernel
theorem dX8_readTalk_39 : decode cX8_readTalk 39 = .ok (.invokevirtual 202, 3) := by decide +kernel
theorem dX8_readTalk_42 : decode cX8_readTalk 42 = .ok (.istore_n 3, 1) := by decide +kernel
theorem dX8_readTalk_43 : decode cX8_readTalk 43 = .ok (.iload_n 3, 1) := by decide +kernel
theorem dX8_readTalk_44 : decode cX8_readTalk 44 = .ok (.iconst (-1), 1) := by decide +kernel
theorem dX8_readTalk_45 : decode cX8_readTalk 45 = .ok (.if_icmp .ne 5, 3) := by decide +kernel
theorem dX8_readTalk_48 : decode cX8_readTalk 48 = .ok (.iconst 0, 1) := by decide +kernel
theorem dX8_readTalk_49 : decode cX8_readTalk 49 = .ok (.ireturn, 1) := by decide +kernel
theorem dX8_readTalk_50 : decode cX8_readTalk 50 = .ok (.aload_n 0, 1) := by decide +kernel
theorem dX8_readTalk_51 : decode cX8_readTalk 51 = .ok (.getfield 19, 3) := by decide +kernel
theorem dX8_readTalk_54 : decode cX8_readTalk 54 = .ok (.getfield 155, 3) := by decide +kernel
theorem dX8_readTalk_57 : decode cX8_readTalk 57 = .ok (.iload_n 1, 1) := by decide +kernel
theorem dX8_readTalk_58 : decode cX8_readTalk 58 = .ok (.iload_n 2, 1) := by decide +kernel
theorem dX8_readTalk_59 : decode cX8_readTalk 59 = .ok (.iload_n 3, 1) := by decide +kernel
theorem dX8_readTalk_60 : decode cX8_readTalk 60 = .ok (.iconst 0, 1) := by decide +kernel
theorem dX8_readTalk_61 : decode cX8_readTalk 61 = .ok (.invokevirtual 206, 3) := by decide +kernel
theorem dX8_readTalk_64 : decode cX8_readTalk 64 = .ok (.aload_n 0, 1) := by decide +kernel
theorem dX8_readTalk_65 : decode cX8_readTalk 65 = .ok (.invokevirtual 180, 3) := by decide +kernel
theorem dX8_readTalk_68 : decode cX8_readTalk 68 = .ok (.ireturn, 1) := by decide +kernel
noncomputable def f_X8_readTalk (a0 : Nat) (μ : Mm) : Option (Int32 × Mm) :=
  if (mm_K μ a0).1 = 9 then (f_X8_readNamed a0 μ).bind fun x1 => if x1.1 = (-1 : Int32) then some ((0 : Int32), x1.2) else (f_X8_readNamed a0 x1.2).bind fun x13 => if x13.1 = (-1 : Int32) then some ((0 : Int32), x13.2) else if x13.1 = x1.1 then (f_X8_fail a0 (3 : Int32) x13.2).bind fun x31 => if x31.1 = 0 ∨ x31.1 = 1 then some (x31.1, x31.2) else none else (f_X8_readBetween a0 (1 : Int32) (28 : Int32) x13.2).bind fun x39 => if x39.1 = (-1 : Int32) then some ((0 : Int32), x39.2) else (gf_P 9 1 a0 x39.2).bind fun x51 => (gf_P 8 4 x51 x39.2).bind fun x54 => (f_X2_add x54 x1.1 x13.1 x39.1 (0 : Int32) x39.2).bind fun x61 => (f_X8_readMark a0 x61).bind fun x65 => if x65.1 = 0 ∨ x65.1 = 1 then some (x65.1, x65.2) else none else none
abbrev Rn_X8_readTalk (G : Gv) (Q : Option Value → Mm → Prop) (pc : Nat) (lv : List (Nat × Value)) (st : List Value) (μ : Mm) : Prop := Rn G RX8 cX8_readTalk 4 (some .boolean) "readTalk" (rmd 4 0 0) (Zm G 0 0 Q) 0 0 pc lv st μ
set_option maxRecDepth 100000 in
set_option maxHeartbeats 4000000 in
theorem m_X8_readTalk {G : Gv} (a0 : Nat) (μ : Mm) {r : (Int32 × Mm)} (hx : f_X8_readTalk a0 μ = some r) : Mt G yX8_readTalk cX8_readTalk 4 (some .boolean) 4 0 0 [.ref a0] μ (fun v μ' => v = some (.int r.1) ∧ μ' = r.2) := by
  refine Mt.of (by decide) (Nat.le_of_ble_eq_true rfl) ?_
  show Rn_X8_readTalk G (fun v μ' => v = some (.int r.1) ∧ μ' = r.2) 0 [(0, .ref a0)] [] μ
  obtain ⟨_, h⟩ := Sat_ifp (show Sat (f_X8_readTalk a0 μ) (fun x => x = r) from ⟨_, hx, rfl⟩)
  refine r_aload_n dX8_readTalk_0 0 rfl ?_
  obtain ⟨x1, e1, h⟩ := Sat_bind h
  refine r_cV (t := 9) [] [] (m_X8_readNamed a0 μ e1) ck_X8_readNamed lk_X8_186 in_X8_readNamed se_X8_readNamed (kd_of e1) ⟨rfl, by decide, by decide⟩ rfl rfl (Nat.le_of_ble_eq_true rfl) ⟨by decide, by decide⟩ ⟨Nat.zero_le _, Nat.zero_le _⟩ dX8_readTalk_1 ?_
  refine r_istore_n (lv' := [(1, .int x1.1), (0, .ref a0)]) dX8_readTalk_4 rfl (by decide) rfl ?_
  refine r_iload_n dX8_readTalk_5 0 rfl ?_
  refine r_iconst (v := -1) dX8_readTalk_6 (by decide) ?_
  refine r_icmp_ne 12 dX8_readTalk_7 (by decide) (fun c7 => ?_) (fun c7 => ?_)
  · have h := Sat_neg c7 h
    refine r_aload_n dX8_readTalk_12 1 rfl ?_
    obtain ⟨x13, e13, h⟩ := Sat_bind h
    refine r_cV (t := 9) [] [] (m_X8_readNamed a0 x1.2 e13) ck_X8_readNamed lk_X8_186 in_X8_readNamed se_X8_readNamed (kd_of e13) ⟨rfl, by decide, by decide⟩ rfl rfl (Nat.le_of_ble_eq_true rfl) ⟨by decide, by decide⟩ ⟨Nat.zero_le _, Nat.zero_le _⟩ dX8_readTalk_13 ?_
    refine r_istore_n (lv' := [(2, .int x13.1), (1, .int x1.1), (0, .ref a0)]) dX8_readTalk_16 rfl (by decide) rfl ?_
    refine r_iload_n dX8_readTalk_17 0 rfl ?_
    refine r_iconst (v := -1) dX8_readTalk_18 (by decide) ?_
    refine r_icmp_ne 24 dX8_readTalk_19 (by decide) (fun c19 => ?_) (fun c19 => ?_)
    · have h := Sat_neg c19 h
      refine r_iload_n dX8_readTalk_24 0 rfl ?_
      refine r_iload_n dX8_readTalk_25 1 rfl ?_
      refine r_icmp_ne 35 dX8_readTalk_26 (by decide) (fun c26 => ?_) (fun c26 => ?_)
      · have h := Sat_neg c26 h
        refine r_aload_n dX8_readTalk_35 2 rfl ?_
        refine r_iconst (v := 1) dX8_readTalk_36 (by decide) ?_
        refine r_bipush (v := 28) dX8_readTalk_37 (by decide) ?_
        obtain ⟨x39, e39, h⟩ := Sat_bind h
        refine r_cV (t := 9) [.int (1 : Int32), .int (28 : Int32)] [] (m_X8_readBetween a0 (1 : Int32) (28 : Int32) x13.2 e39) ck_X8_readBetween lk_X8_202 in_X8_readBetween se_X8_readBetween (kd_of e39) ⟨rfl, by decide, by decide⟩ rfl rfl (Nat.le_of_ble_eq_true rfl) ⟨by decide, by decide⟩ ⟨Nat.zero_le _, Nat.zero_le _⟩ dX8_readTalk_39 ?_
        refine r_istore_n (lv' := [(3, .int x39.1), (2, .int x13.1), (1, .int x1.1), (0, .ref a0)]) dX8_readTalk_42 rfl (by decide) rfl ?_
        refine r_iload_n dX8_readTalk_43 0 rfl ?_
        refine r_iconst (v := -1) dX8_readTalk_44 (by decide) ?_
        refine r_icmp_ne 50 dX8_readTalk_45 (by decide) (fun c45 => ?_) (fun c45 => ?_)
        · have h := Sat_neg c45 h
          refine r_aload_n dX8_readTalk_50 3 rfl ?_
          obtain ⟨x51, e51, h⟩ := Sat_bind h
          refine r_getP fk_X8_19 rfl e51 dX8_readTalk_51 ?_
          obtain ⟨x54, e54, h⟩ := Sat_bind h
          refine r_getP fk_X8_155 rfl e54 dX8_readTalk_54 ?_
          refine r_iload_n dX8_readTalk_57 2 rfl ?_
          refine r_iload_n dX8_readTalk_58 1 rfl ?_
          refine r_iload_n dX8_readTalk_59 0 rfl ?_
          refine r_iconst (v := 0) dX8_readTalk_60 (by decide) ?_
          obtain ⟨x61, e61, h⟩ := Sat_bind h
          refine r_cV (t := 3) [.int x1.1, .int x13.1, .int x39.1, .int (0 : Int32)] [] (m_X2_add x54 x1.1 x13.1 x39.1 (0 : Int32) x39.2 e61) ck_X2_add lk_X8_206 in_X2_add se_X2_add (kd_of e61) ⟨rfl, by decide, by decide⟩ rfl rfl (Nat.le_of_ble_eq_true rfl) ⟨by decide, by decide⟩ ⟨Nat.zero_le _, Nat.zero_le _⟩ dX8_readTalk_61 ?_
          refine r_aload_n dX8_readTalk_64 3 rfl ?_
          obtain ⟨x65, e65, h⟩ := Sat_bind h
          refine r_cV (t := 9) [] [] (m_X8_readMark a0 x61 e65) ck_X8_readMark lk_X8_180 in_X8_readMark se_X8_readMark (kd_of e65) ⟨rfl, by decide, by decide⟩ rfl rfl (Nat.le_of_ble_eq_true rfl) ⟨by decide, by decide⟩ ⟨Nat.zero_le _, Nat.zero_le _⟩ dX8_readTalk_65 ?_
          obtain ⟨hz, h⟩ := Sat_ifp h
          exact r_zreturn rfl hz (by rw [← Sat_eq h]; exact ⟨rfl, rfl⟩) dX8_readTalk_68
        · have h := Sat_pos c45 h
          refine r_iconst (v := 0) dX8_readTalk_48 (by decide) ?_
          exact r_zreturn rfl (by decide) (by rw [← Sat_eq h]; exact ⟨rfl, rfl⟩) dX8_readTalk_49
      · have h := Sat_pos c26 h
        refine r_aload_n dX8_readTalk_29 2 rfl ?_
        refine r_iconst (v := 3) dX8_readTalk_30 (by decide) ?_
        obtain ⟨x31, e31, h⟩ := Sat_bind h
        refine r_cV (t := 9) [.int (3 : Int32)] [] (m_X8_fail a0 (3 : Int32) x13.2 e31) ck_X8_fail lk_X8_68 in_X8_fail se_X8_fail (kd_of e31) ⟨rfl, by decide, by decide⟩ rfl rfl (Nat.le_of_ble_eq_true rfl) ⟨by decide, by decide⟩ ⟨Nat.zero_le _, Nat.zero_le _⟩ dX8_readTalk_31 ?_
        obtain ⟨hz, h⟩ := Sat_ifp h
        exact r_zreturn rfl hz (by rw [← Sat_eq h]; exact ⟨rfl, rfl⟩) dX8_readTalk_34
    · have h := Sat_pos c19 h
      refine r_iconst (v := 0) dX8_readTalk_22 (by decide) ?_
      exact r_zreturn rfl (by decide) (by rw [← Sat_eq h]; exact ⟨rfl, rfl⟩) dX8_readTalk_23
  · have h := Sat_pos c7 h
    refine r_iconst (v := 0) dX8_readTalk_10 (by decide) ?_
    exact r_zreturn rfl (by decide) (by rw [← Sat_eq h]; exact ⟨rfl, rfl⟩) dX8_readTalk_11
theorem dX8_readTrade_0 : decode cX8_readTrade 0 = .ok (.aload_n 0, 1) := by decide +kernel
theorem dX8_readTrade_1 : decode cX8_readTrade 1 = .ok (.invokevirtual 186, 3) := by decide +kernel
theorem dX8_readTrade_4 : decode cX8_readTrade 4 = .ok (.istore_n 1, 1) := by decide +kernel
theorem dX8_readTrade_5 : decode cX8_readTrade 5 = .ok (.aload_n 0, 1) := by decide +kernel
theorem dX8_readTrade_6 : decode cX8_readTrade 6 = .ok (.getfield 19, 3) := by decide +kernel
theorem dX8_readTrade_9 : decode cX8_readTrade 9 = .ok (.iload_n 1, 1) := by decide +kernel
theorem dX8_readTrade_10 : decode cX8_readTrade 10 = .ok (.invokevirtual 189, 3) := by decide +kernel
theorem dX8_readTrade_13 : decode cX8_readTrade 13 = .ok (.ifCond .ne 5, 3) := by decide +kernel
theorem dX8_readTrade_16 : decode cX8_readTrade 16 = .ok (.iconst 0, 1) := by decide +kernel
theorem dX8_readTrade_17 : decode cX8_readTrade 17 = .ok (.ireturn, 1) := by decide +kernel
theorem dX8_readTrade_18 : decode cX8_readTrade 18 = .ok (.aload_n 0, 1) := by decide +kernel
theorem dX8_readTrade_19 : decode cX8_readTrade 19 = .ok (.getfield 19, 3) := by decide +kernel
theorem dX8_readTrade_22 : decode cX8_readTrade 22 = .ok (.getfield 210, 3) := by decide +kernel
theorem dX8_readTrade_25 : decode cX8_readTrade 25 = .ok (.iload_n 1, 1) := by decide +kernel
theorem dX8_readTrade_26 : decode cX8_readTrade 26 = .ok (.ishr, 1) := by decide +kernel
theorem dX8_readTrade_27 : decode cX8_readTrade 27 = .ok (.iconst 1, 1) := by decide +kernel
theorem dX8_readTrade_28 : decode cX8_readTrade 28 = .ok (.iand, 1) := by decide +kernel
theorem dX8_readTrade_29 : decode cX8_readTrade 29 = .ok (.ifCond .eq 9, 3) := by decide +kernel
theorem dX8_readTrade_32 : decode cX8_readTrade 32 = .ok (.aload_n 0, 1) := by decide +kernel
theorem dX8_readTrade_33 : decode cX8_readTrade 33 = .ok (.iconst 3, 1) := by decide +kernel
theorem dX8_readTrade_34 : decode cX8_readTrade 34 = .ok (.invokevirtual 68, 3) := by decide +kernel
theorem dX8_readTrade_37 : decode cX8_readTrade 37 = .ok (.ireturn, 1) := by decide +kernel
theorem dX8_readTrade_38 : decode cX8_readTrade 38 = .ok (.aload_n 0, 1) := by decide +kernel
theorem dX8_readTrade_39 : decode cX8_readTrade 39 = .ok (.iconst 0, 1) := by decide +kernel
theorem dX8_readTrade_40 : decode cX8_readTrade 40 = .ok (.bipush 99, 2) := by decide +kernel
theorem dX8_readTrade_42 : decode cX8_readTrade 42 = .ok (.invokevirtual 202, 3) := by decide +kernel
theorem dX8_readTrade_45 : decode cX8_readTrade 45 = .ok (.istore_n 2, 1) := by decide +kernel
theorem dX8_readTrade_46 : decode cX8_readTrade 46 = .ok (.iload_n 2, 1) := by decide +kernel
theorem dX8_readTrade_47 : decode cX8_readTrade 47 = .ok (.iconst (-1), 1) := by decide +kernel
theorem dX8_readTrade_48 : decode cX8_readTrade 48 = .ok (.if_icmp .ne 5, 3) := by decide +kernel
theorem dX8_readTrade_51 : decode cX8_readTrade 51 = .ok (.iconst 0, 1) := by decide +kernel
theorem dX8_readTrade_52 : decode cX8_readTrade 52 = .ok (.ireturn, 1) := by decide +kernel
theorem dX8_readTrade_53 : decode cX8_readTrade 53 = .ok (.aload_n 0, 1) := by decide +kernel
theorem dX8_readTrade_54 : decode cX8_readTrade 54 = .ok (.getfield 19, 3) := by decide +kernel
theorem dX8_readTrade_57 : decode cX8_readTrade 57 = .ok (.getfield 213, 3) := by decide +kernel
theorem dX8_readTrade_60 : decode cX8_readTrade 60 = .ok (.iload_n 1, 1) := by decide +kernel
theorem dX8_readTrade_61 : decode cX8_readTrade 61 = .ok (.iload_n 2, 1) := by decide +kernel
theorem dX8_readTrade_62 : decode cX8_readTrade 62 = .ok (.iastore, 1) := by decide +kernel
theorem dX8_readTrade_63 : decode cX8_readTrade 63 = .ok (.aload_n 0, 1) := by decide +kernel
theorem dX8_readTrade_64 : decode cX8_readTrade 64 = .ok (.getfield 19, 3) := by decide +kernel
theorem dX8_readTrade_67 : decode cX8_readTrade 67 = .ok (.dup, 1) := by decide +kernel
theorem dX8_readTrade_68 : decode cX8_readTrade 68 = .ok (.getfield 210, 3) := by decide +kernel
theorem dX8_readTrade_71 : decode cX8_readTrade 71 = .ok (.iconst 1, 1) := by decide +kernel
theorem dX8_readTrade_72 : decode cX8_readTrade 72 = .ok (.iload_n 1, 1) := by decide +kernel
theorem dX8_readTrade_73 : decode cX8_readTrade 73 = .ok (.ishl, 1) := by decide +kernel
theorem dX8_readTrade_74 : decode cX8_readTrade 74 = .ok (.ior, 1) := by decide +kernel
theorem dX8_readTrade_75 : decode cX8_readTrade 75 = .ok (.putfield 210, 3) := by decide +kernel
theorem dX8_readTrade_78 : decode cX8_readTrade 78 = .ok (.aload_n 0, 1) := by decide +kernel
theorem dX8_readTrade_79 : decode cX8_readTrade 79 = .ok (.invokevirtual 180, 3) := by decide +kernel
theorem dX8_readTrade_82 : decode cX8_readTrade 82 = .ok (.ireturn, 1) := by decide +kernel
noncomputable def f_X8_readTrade (a0 : Nat) (μ : Mm) : Option (Int32 × Mm) :=
  if (mm_K μ a0).1 = 9 then (f_X8_readNamed a0 μ).bind fun x1 => (gf_P 9 1 a0 x1.2).bind fun x6 => (f_X7_isPerson x6 x1.1 x1.2).bind fun x10 => if x10 = 0 then some ((0 : Int32), x1.2) else (gf_P 9 1 a0 x1.2).bind fun x19 => (gf_I 8 12 x19 x1.2).bind fun x22 => if ((x22 >>> (x1.1 &&& 31)) &&& (1 : Int32)) = 0 then (f_X8_readBetween a0 (0 : Int32) (99 : Int32) x1.2).bind fun x42 => if x42.1 = (-1 : Int32) then some ((0 : Int32), x42.2) else (gf_P 9 1 a0 x42.2).bind fun x54 => (gf_P 8 2 x54 x42.2).bind fun x57 => (pa_I x57 x1.1 x42.1 x42.2).bind fun μ62 => (gf_P 9 1 a0 μ62).bind fun x64 => (gf_I 8 12 x64 μ62).bind fun x68 => (pf_I 8 12 x64 (x68 ||| ((1 : Int32) <<< (x1.1 &&& 31))) μ62).bind fun μ75 => (f_X8_readMark a0 μ75).bind fun x79 => if x79.1 = 0 ∨ x79.1 = 1 then some (x79.1, x79.2) else none else (f_X8_fail a0 (3 : Int32) x1.2).bind fun x34 => if x34.1 = 0 ∨ x34.1 = 1 then some (x34.1, x34.2) else none else none
abbrev Rn_X8_readTrade (G : Gv) (Q : Option Value → Mm → Prop) (pc : Nat) (lv : List (Nat × Value)) (st : List Value) (μ : Mm) : Prop := Rn G RX8 cX8_readTrade 3 (some .boolean) "readTrade" (rmd 4 0 0) (Zm G 0 0 Q) 0 0 pc lv st μ
set_option maxRecDepth 100000 in
set_option maxHeartbeats 4000000 in
theorem m_X8_readTrade {G : Gv} (a0 : Nat) (μ : Mm) {r : (Int32 × Mm)} (hx : f_X8_readTrade a0 μ = some r) : Mt G yX8_readTrade cX8_readTrade 3 (some .boolean) 4 0 0 [.ref a0] μ (fun v μ' => v = some (.int r.1) ∧ μ' = r.2) := by
  refine Mt.of (by decide) (Nat.le_of_ble_eq_true rfl) ?_
  show Rn_X8_readTrade G (fun v μ' => v = some (.int r.1) ∧ μ' = r.2) 0 [(0, .ref a0)] [] μ
  obtain ⟨_, h⟩ := Sat_ifp (show Sat (f_X8_readTrade a0 μ) (fun x => x = r) from ⟨_, hx, rfl⟩)
  refine r_aload_n dX8_readTrade_0 0 rfl ?_
  obtain ⟨x1, e1, h⟩ := Sat_bind h
  refine r_cV (t := 9) [] [] (m_X8_readNamed a0 μ e1) ck_X8_readNamed lk_X8_186 in_X8_readNamed se_X8_readNamed (kd_of e1) ⟨rfl, by decide, by decide⟩ rfl rfl (Nat.le_of_ble_eq_true rfl) ⟨by decide, by decide⟩ ⟨Nat.zero_le _, Nat.zero_le _⟩ dX8_readTrade_1 ?_
  refine r_istore_n (lv' := [(1, .int x1.1), (0, .ref a0)]) dX8_readTrade_4 rfl (by decide) rfl ?_
  refine r_aload_n dX8_readTrade_5 1 rfl ?_
  obtain ⟨x6, e6, h⟩ := Sat_bind h
  refine r_getP fk_X8_19 rfl e6 dX8_readTrade_6 ?_
  refine r_iload_n dX8_readTrade_9 0 rfl ?_
  obtain ⟨x10, e10, h⟩ := Sat_bind h
  refine r_cV (t := 8) [.int x1.1] [] (m_X7_isPerson x6 x1.1 x1.2 e10) ck_X7_isPerson lk_X8_189 in_X7_isPerson se_X7_isPerson (kd_of e10) ⟨rfl, by decide, by decide⟩ rfl rfl (Nat.le_of_ble_eq_true rfl) ⟨by decide, by decide⟩ ⟨Nat.zero_le _, Nat.zero_le _⟩ dX8_readTrade_10 ?_
  refine r_if_ne 18 dX8_readTrade_13 (by decide) (fun c13 => ?_) (fun c13 => ?_)
  · have h := Sat_neg c13 h
    refine r_aload_n dX8_readTrade_18 1 rfl ?_
    obtain ⟨x19, e19, h⟩ := Sat_bind h
    refine r_getP fk_X8_19 rfl e19 dX8_readTrade_19 ?_
    obtain ⟨x22, e22, h⟩ := Sat_bind h
    refine r_getI fk_X8_210 rfl e22 dX8_readTrade_22 ?_
    refine r_iload_n dX8_readTrade_25 0 rfl ?_
    refine r_ishr dX8_readTrade_26 ?_
    refine r_iconst (v := 1) dX8_readTrade_27 (by decide) ?_
    refine r_iand dX8_readTrade_28 ?_
    refine r_if_eq 38 dX8_readTrade_29 (by decide) (fun c29 => ?_) (fun c29 => ?_)
    · have h := Sat_pos c29 h
      refine r_aload_n dX8_readTrade_38 1 rfl ?_
      refine r_iconst (v := 0) dX8_readTrade_39 (by decide) ?_
      refine r_bipush (v := 99) dX8_readTrade_40 (by decide) ?_
      obtain ⟨x42, e42, h⟩ := Sat_bind h
      refine r_cV (t := 9) [.int (0 : Int32), .int (99 : Int32)] [] (m_X8_readBetween a0 (0 : Int32) (99 : Int32) x1.2 e42) ck_X8_readBetween lk_X8_202 in_X8_readBetween se_X8_readBetween (kd_of e42) ⟨rfl, by decide, by decide⟩ rfl rfl (Nat.le_of_ble_eq_true rfl) ⟨by decide, by decide⟩ ⟨Nat.zero_le _, Nat.zero_le _⟩ dX8_readTrade_42 ?_
      refine r_istore_n (lv' := [(2, .int x42.1), (1, .int x1.1), (0, .ref a0)]) dX8_readTrade_45 rfl (by decide) rfl ?_
      refine r_iload_n dX8_readTrade_46 0 rfl ?_
      refine r_iconst (v := -1) dX8_readTrade_47 (by decide) ?_
      refine r_icmp_ne 53 dX8_readTrade_48 (by decide) (fun c48 => ?_) (fun c48 => ?_)
      · have h := Sat_neg c48 h
        refine r_aload_n dX8_readTrade_53 2 rfl ?_
        obtain ⟨x54, e54, h⟩ := Sat_bind h
        refine r_getP fk_X8_19 rfl e54 dX8_readTrade_54 ?_
        obtain ⟨x57, e57, h⟩ := Sat_bind h
        refine r_getP fk_X8_213 rfl e57 dX8_readTrade_57 ?_
        refine r_iload_n dX8_readTrade_60 1 rfl ?_
        refine r_iload_n dX8_readTrade_61 0 rfl ?_
        obtain ⟨μ62, e62, h⟩ := Sat_bind h
        refine r_iastore e62 dX8_readTrade_62 ?_
        refine r_aload_n dX8_readTrade_63 2 rfl ?_
        obtain ⟨x64, e64, h⟩ := Sat_bind h
        refine r_getP fk_X8_19 rfl e64 dX8_readTrade_64 ?_
        refine r_dup dX8_readTrade_67 rfl ?_
        obtain ⟨x68, e68, h⟩ := Sat_bind h
        refine r_getI fk_X8_210 rfl e68 dX8_readTrade_68 ?_
        refine r_iconst (v := 1) dX8_readTrade_71 (by decide) ?_
        refine r_iload_n dX8_readTrade_72 1 rfl ?_
        refine r_ishl dX8_readTrade_73 ?_
        refine r_ior dX8_readTrade_74 ?_
        obtain ⟨μ75, e75, h⟩ := Sat_bind h
        refine r_putI fk_X8_210 rfl rfl e75 dX8_readTrade_75 ?_
        refine r_aload_n dX8_readTrade_78 2 rfl ?_
        obtain ⟨x79, e79, h⟩ := Sat_bind h
        refine r_cV (t := 9) [] [] (m_X8_readMark a0 μ75 e79) ck_X8_readMark lk_X8_180 in_X8_readMark se_X8_readMark (kd_of e79) ⟨rfl, by decide, by decide⟩ rfl rfl (Nat.le_of_ble_eq_true rfl) ⟨by decide, by decide⟩ ⟨Nat.zero_le _, Nat.zero_le _⟩ dX8_readTrade_79 ?_
        obtain ⟨hz, h⟩ := Sat_ifp h
        exact r_zreturn rfl hz (by rw [← Sat_eq h]; exact ⟨rfl, rfl⟩) dX8_readTrade_82
      · have h := Sat_pos c48 h
        refine r_iconst (v := 0) dX8_readTrade_51 (by decide) ?_
        exact r_zreturn rfl (by decide) (by rw [← Sat_eq h]; exact ⟨rfl, rfl⟩) dX8_readTrade_52
    · have h := Sat_neg c29 h
      refine r_aload_n dX8_readTrade_32 1 rfl ?_
      refine r_iconst (v := 3) dX8_readTrade_33 (by decide) ?_
      obtain ⟨x34, e34, h⟩ := Sat_bind h
      refine r_cV (t := 9) [.int (3 : Int32)] [] (m_X8_fail a0 (3 : Int32) x1.2 e34) ck_X8_fail lk_X8_68 in_X8_fail se_X8_fail (kd_of e34) ⟨rfl, by decide, by decide⟩ rfl rfl (Nat.le_of_ble_eq_true rfl) ⟨by decide, by decide⟩ ⟨Nat.zero_le _, Nat.zero_le _⟩ dX8_readTrade_34 ?_
      obtain ⟨hz, h⟩ := Sat_ifp h
      exact r_zreturn rfl hz (by rw [← Sat_eq h]; exact ⟨rfl, rfl⟩) dX8_readTrade_37
  · have h := Sat_pos c13 h
    refine r_iconst (v := 0) dX8_readTrade_16 (by decide) ?_
    exact r_zreturn rfl (by decide) (by rw [← Sat_eq h]; exact ⟨rfl, rfl⟩) dX8_readTrade_17
theorem dX8_readWish_0 : decode cX8_readWish 0 = .ok (.aload_n 0, 1) := by decide +kernel
theorem dX8_readWish_1 : decode cX8_readWish 1 = .ok (.invokevirtual 186, 3) := by decide +kernel
theorem dX8_readWish_4 : decode cX8_readWish 4 = .ok (.istore_n 2, 1) := by decide +kernel
theorem dX8_readWish_5 : decode cX8_readWish 5 = .ok (.iload_n 2, 1) := by decide +kernel
theorem dX8_readWish_6 : decode cX8_readWish 6 = .ok (.iconst (-1), 1) := by decide +kernel
theorem dX8_readWish_7 : decode cX8_readWish 7 = .ok (.if_icmp .ne 5, 3) := by decide +kernel
theorem dX8_readWish_10 : decode cX8_readWish 10 = .ok (.iconst 0, 1) := by decide +kernel
theorem dX8_readWish_11 : decode cX8_readWish 11 = .ok (.ireturn, 1) := by decide +kernel
theorem dX8_readWish_12 : decode cX8_readWish 12 = .ok (.aload_n 0, 1) := by decide +kernel
theorem dX8_readWish_13 : decode cX8_readWish 13 = .ok (.iconst 0, 1) := by decide +kernel
theorem dX8_readWish_14 : decode cX8_readWish 14 = .ok (.bipush 11, 2) := by decide +kernel
theorem dX8_readWish_16 : decode cX8_readWish 16 = .ok (.invokevirtual 202, 3) := by decide +kernel
theorem dX8_readWish_19 : decode cX8_readWish 19 = .ok (.istore_n 3, 1) := by decide +kernel
theorem dX8_readWish_20 : decode cX8_readWish 20 = .ok (.iload_n 3, 1) := by decide +kernel
theorem dX8_readWish_21 : decode cX8_readWish 21 = .ok (.iconst (-1), 1) := by decide +kernel
theorem dX8_readWish_22 : decode cX8_readWish 22 = .ok (.if_icmp .ne 5, 3) := by decide +kernel
theorem dX8_readWish_25 : decode cX8_readWish 25 = .ok (.iconst 0, 1) := by decide +kernel
theorem dX8_readWish_26 : decode cX8_readWish 26 = .ok (.ireturn, 1) := by decide +kernel
theorem dX8_readWish_27 : decode cX8_readWish 27 = .ok (.aload_n 0, 1) := by decide +kernel
theorem dX8_readWish_28 : decode cX8_readWish 28 = .ok (.iconst 0, 1) := by decide +kernel
theorem dX8_readWish_29 : decode cX8_readWish 29 = .ok (.bipush 27, 2) := by decide +kernel
theorem dX8_readWish_31 : decode cX8_readWish 31 = .ok (.invokevirtual 202, 3) := by decide +kernel
theorem dX8_readWish_34 : decode cX8_readWish 34 = .ok (.istore 4, 2) := by decide +kernel
theorem dX8_readWish_36 : decode cX8_readWish 36 = .ok (.iload 4, 2) := by decide +kernel
theorem dX8_readWish_38 : decode cX8_readWish 38 = .ok (.iconst (-1), 1) := by decide +kernel
theorem dX8_readWish_39 : decode cX8_readWish 39 = .ok (.if_icmp .ne 5, 3) := by decide +kernel
theorem dX8_readWish_42 : decode cX8_readWish 42 = .ok (.iconst 0, 1) := by decide +kernel
theorem dX8_readWish_43 : decode cX8_readWish 43 = .ok (.ireturn, 1) := by decide +kernel
theorem dX8_readWish_44 : decode cX8_readWish 44 = .ok (.aload_n 0, 1) := by decide +kernel
theorem dX8_readWish_45 : decode cX8_readWish 45 = .ok (.getfield 19, 3) := by decide +kernel
theorem dX8_readWish_48 : decode cX8_readWish 48 = .ok (.getfield 161, 3) := by decide +kernel
theorem dX8_readWish_51 : decode cX8_readWish 51 = .ok (.iload_n 1, 1) := by decide +kernel
theorem dX8_readWish_52 : decode cX8_readWish 52 = .ok (.iload_n 2, 1) := by decide +kernel
theorem dX8_readWish_53 : decode cX8_readWish 53 = .ok (.iload_n 3, 1) := by decide +kernel
theorem dX8_readWish_54 : decode cX8_readWish 54 = .ok (.iload 4, 2) := by decide +kernel
theorem dX8_readWish_56 : decode cX8_readWish 56 = .ok (.invokevirtual 206, 3) := by decide +kernel
theorem dX8_readWish_59 : decode cX8_readWish 59 = .ok (.aload_n 0, 1) := by decide +kernel
theorem dX8_readWish_60 : decode cX8_readWish 60 = .ok (.invokevirtual 180, 3) := by decide +kernel
theorem dX8_readWish_63 : decode cX8_readWish 63 = .ok (.ireturn, 1) := by decide +kernel
noncomputable def f_X8_readWish (a0 : Nat) (l1 : Int32) (μ : Mm) : Option (Int32 × Mm) :=
  if (mm_K μ a0).1 = 9 then (f_X8_readNamed a0 μ).bind fun x1 => if x1.1 = (-1 : Int32) then some ((0 : Int32), x1.2) else (f_X8_readBetween a0 (0 : Int32) (11 : Int32) x1.2).bind fun x16 => if x16.1 = (-1 : Int32) then some ((0 : Int32), x16.2) else (f_X8_readBetween a0 (0 : Int32) (27 : Int32) x16.2).bind fun x31 => if x31.1 = (-1 : Int32) then some ((0 : Int32), x31.2) else (gf_P 9 1 a0 x31.2).bind fun x45 => (gf_P 8 7 x45 x31.2).bind fun x48 => (f_X2_add x48 l1 x1.1 x16.1 x31.1 x31.2).bind fun x56 => (f_X8_readMark a0 x56).bind fun x60 => if x60.1 = 0 ∨ x60.1 = 1 then some (x60.1, x60.2) else none else none
abbrev Rn_X8_readWish (G : Gv) (Q : Option Value → Mm → Prop) (pc : Nat) (lv : List (Nat × Value)) (st : List Value) (μ : Mm) : Prop := Rn G RX8 cX8_readWish 5 (some .boolean) "readWish" (rmd 4 0 0) (Zm G 0 0 Q) 0 0 pc lv st μ
set_option maxRecDepth 100000 in
set_option maxHeartbeats 4000000 in
theorem m_X8_readWish {G : Gv} (a0 : Nat) (l1 : Int32) (μ : Mm) {r : (Int32 × Mm)} (hx : f_X8_readWish a0 l1 μ = some r) : Mt G yX8_readWish cX8_readWish 5 (some .boolean) 4 0 0 [.ref a0, .int l1] μ (fun v μ' => v = some (.int r.1) ∧ μ' = r.2) := by
  refine Mt.of (by decide) (Nat.le_of_ble_eq_true rfl) ?_
  show Rn_X8_readWish G (fun v μ' => v = some (.int r.1) ∧ μ' = r.2) 0 [(0, .ref a0), (1, .int l1)] [] μ
  obtain ⟨_, h⟩ := Sat_ifp (show Sat (f_X8_readWish a0 l1 μ) (fun x => x = r) from ⟨_, hx, rfl⟩)
  refine r_aload_n dX8_readWish_0 0 rfl ?_
  obtain ⟨x1, e1, h⟩ := Sat_bind h
  refine r_cV (t := 9) [] [] (m_X8_readNamed a0 μ e1) ck_X8_readNamed lk_X8_186 in_X8_readNamed se_X8_readNamed (kd_of e1) ⟨rfl, by decide, by decide⟩ rfl rfl (Nat.le_of_ble_eq_true rfl) ⟨by decide, by decide⟩ ⟨Nat.zero_le _, Nat.zero_le _⟩ dX8_readWish_1 ?_
  refine r_istore_n (lv' := [(2, .int x1.1), (0, .ref a0), (1, .int l1)]) dX8_readWish_4 rfl (by decide) rfl ?_
  refine r_iload_n dX8_readWish_5 0 rfl ?_
  refine r_iconst (v := -1) dX8_readWish_6 (by decide) ?_
  refine r_icmp_ne 12 dX8_readWish_7 (by decide) (fun c7 => ?_) (fun c7 => ?_)
  · have h := Sat_neg c7 h
    refine r_aload_n dX8_readWish_12 1 rfl ?_
    refine r_iconst (v := 0) dX8_readWish_13 (by decide) ?_
    refine r_bipush (v := 11) dX8_readWish_14 (by decide) ?_
    obtain ⟨x16, e16, h⟩ := Sat_bind h
    refine r_cV (t := 9) [.int (0 : Int32), .int (11 : Int32)] [] (m_X8_readBetween a0 (0 : Int32) (11 : Int32) x1.2 e16) ck_X8_readBetween lk_X8_202 in_X8_readBetween se_X8_readBetween (kd_of e16) ⟨rfl, by decide, by decide⟩ rfl rfl (Nat.le_of_ble_eq_true rfl) ⟨by decide, by decide⟩ ⟨Nat.zero_le _, Nat.zero_le _⟩ dX8_readWish_16 ?_
    refine r_istore_n (lv' := [(3, .int x16.1), (2, .int x1.1), (0, .ref a0), (1, .int l1)]) dX8_readWish_19 rfl (by decide) rfl ?_
    refine r_iload_n dX8_readWish_20 0 rfl ?_
    refine r_iconst (v := -1) dX8_readWish_21 (by decide) ?_
    refine r_icmp_ne 27 dX8_readWish_22 (by decide) (fun c22 => ?_) (fun c22 => ?_)
    · have h := Sat_neg c22 h
      refine r_aload_n dX8_readWish_27 2 rfl ?_
      refine r_iconst (v := 0) dX8_readWish_28 (by decide) ?_
      refine r_bipush (v := 27) dX8_readWish_29 (by decide) ?_
      obtain ⟨x31, e31, h⟩ := Sat_bind h
      refine r_cV (t := 9) [.int (0 : Int32), .int (27 : Int32)] [] (m_X8_readBetween a0 (0 : Int32) (27 : Int32) x16.2 e31) ck_X8_readBetween lk_X8_202 in_X8_readBetween se_X8_readBetween (kd_of e31) ⟨rfl, by decide, by decide⟩ rfl rfl (Nat.le_of_ble_eq_true rfl) ⟨by decide, by decide⟩ ⟨Nat.zero_le _, Nat.zero_le _⟩ dX8_readWish_31 ?_
      refine r_istore (lv' := [(4, .int x31.1), (3, .int x16.1), (2, .int x1.1), (0, .ref a0), (1, .int l1)]) dX8_readWish_34 (by decide) rfl ?_
      refine r_iload dX8_readWish_36 0 rfl ?_
      refine r_iconst (v := -1) dX8_readWish_38 (by decide) ?_
      refine r_icmp_ne 44 dX8_readWish_39 (by decide) (fun c39 => ?_) (fun c39 => ?_)
      · have h := Sat_neg c39 h
        refine r_aload_n dX8_readWish_44 3 rfl ?_
        obtain ⟨x45, e45, h⟩ := Sat_bind h
        refine r_getP fk_X8_19 rfl e45 dX8_readWish_45 ?_
        obtain ⟨x48, e48, h⟩ := Sat_bind h
        refine r_getP fk_X8_161 rfl e48 dX8_readWish_48 ?_
        refine r_iload_n dX8_readWish_51 4 rfl ?_
        refine r_iload_n dX8_readWish_52 2 rfl ?_
        refine r_iload_n dX8_readWish_53 1 rfl ?_
        refine r_iload dX8_readWish_54 0 rfl ?_
        obtain ⟨x56, e56, h⟩ := Sat_bind h
        refine r_cV (t := 3) [.int l1, .int x1.1, .int x16.1, .int x31.1] [] (m_X2_add x48 l1 x1.1 x16.1 x31.1 x31.2 e56) ck_X2_add lk_X8_206 in_X2_add se_X2_add (kd_of e56) ⟨rfl, by decide, by decide⟩ rfl rfl (Nat.le_of_ble_eq_true rfl) ⟨by decide, by decide⟩ ⟨Nat.zero_le _, Nat.zero_le _⟩ dX8_readWish_56 ?_
        refine r_aload_n dX8_readWish_59 3 rfl ?_
        obtain ⟨x60, e60, h⟩ := Sat_bind h
        refine r_cV (t := 9) [] [] (m_X8_readMark a0 x56 e60) ck_X8_readMark lk_X8_180 in_X8_readMark se_X8_readMark (kd_of e60) ⟨rfl, by decide, by decide⟩ rfl rfl (Nat.le_of_ble_eq_true rfl) ⟨by decide, by decide⟩ ⟨Nat.zero_le _, Nat.zero_le _⟩ dX8_readWish_60 ?_
        obtain ⟨hz, h⟩ := Sat_ifp h
        exact r_zreturn rfl hz (by rw [← Sat_eq h]; exact ⟨rfl, rfl⟩) dX8_readWish_63
      · have h := Sat_pos c39 h
        refine r_iconst (v := 0) dX8_readWish_42 (by decide) ?_
        exact r_zreturn rfl (by decide) (by rw [← Sat_eq h]; exact ⟨rfl, rfl⟩) dX8_readWish_43
    · have h := Sat_pos c22 h
      refine r_iconst (v := 0) dX8_readWish_25 (by decide) ?_
      exact r_zreturn rfl (by decide) (by rw [← Sat_eq h]; exact ⟨rfl, rfl⟩) dX8_readWish_26
  · have h := Sat_pos c7 h
    refine r_iconst (v := 0) dX8_readWish_10 (by decide) ?_
    exact r_zreturn rfl (by decide) (by rw [← Sat_eq h]; exact ⟨rfl, rfl⟩) dX8_readWish_11
theorem dX8_readClause_0 : decode cX8_readClause 0 = .ok (.aload_n 0, 1) := by decide +kernel
theorem dX8_readClause_1 : decode cX8_readClause 1 = .ok (.invokevirtual 75, 3) := by decide +kernel
theorem dX8_readClause_4 : decode cX8_readClause 4 = .ok (.istore_n 1, 1) := by decide +kernel
theorem dX8_readClause_5 : decode cX8_readClause 5 = .ok (.iload_n 1, 1) := by decide +kernel
theorem dX8_readClause_6 : decode cX8_readClause 6 = .ok (.iconst (-1), 1) := by decide +kernel
theorem dX8_readClause_7 : decode cX8_readClause 7 = .ok (.if_icmp .ne 9, 3) := by decide +kernel
theorem dX8_readClause_10 : decode cX8_readClause 10 = .ok (.aload_n 0, 1) := by decide +kernel
theorem dX8_readClause_11 : decode cX8_readClause 11 = .ok (.iconst 1, 1) := by decide +kernel
theorem dX8_readClause_12 : decode cX8_readClause 12 = .ok (.invokevirtual 68, 3) := by decide +kernel
theorem dX8_readClause_15 : decode cX8_readClause 15 = .ok (.ireturn, 1) := by decide +kernel
theorem dX8_readClause_16 : decode cX8_readClause 16 = .ok (.iload_n 1, 1) := by decide +kernel
theorem dX8_readClause_17 : decode cX8_readClause 17 = .ok (.invokestatic 78, 3) := by decide +kernel
theorem dX8_readClause_20 : decode cX8_readClause 20 = .ok (.ifCond .eq 20, 3) := by decide +kernel
theorem dX8_readClause_23 : decode cX8_readClause 23 = .ok (.aload_n 0, 1) := by decide +kernel
theorem dX8_readClause_24 : decode cX8_readClause 24 = .ok (.getfield 28, 3) := by decide +kernel
theorem dX8_readClause_27 : decode cX8_readClause 27 = .ok (.iload_n 1, 1) := by decide +kernel
theorem dX8_readClause_28 : decode cX8_readClause 28 = .ok (.ishr, 1) := by decide +kernel
theorem dX8_readClause_29 : decode cX8_readClause 29 = .ok (.iconst 1, 1) := by decide +kernel
theorem dX8_readClause_30 : decode cX8_readClause 30 = .ok (.iand, 1) := by decide +kernel
theorem dX8_readClause_31 : decode cX8_readClause 31 = .ok (.ifCond .eq 9, 3) := by decide +kernel
theorem dX8_readClause_34 : decode cX8_readClause 34 = .ok (.aload_n 0, 1) := by decide +kernel
theorem dX8_readClause_35 : decode cX8_readClause 35 = .ok (.iconst 3, 1) := by decide +kernel
theorem dX8_readClause_36 : decode cX8_readClause 36 = .ok (.invokevirtual 68, 3) := by decide +kernel
theorem dX8_readClause_39 : decode cX8_readClause 39 = .ok (.ireturn, 1) := by decide +kernel
theorem dX8_readClause_40 : decode cX8_readClause 40 = .ok (.aload_n 0, 1) := by decide +kernel
theorem dX8_readClause_41 : decode cX8_readClause 41 = .ok (.iload_n 1, 1) := by decide +kernel
theorem dX8_readClause_42 : decode cX8_readClause 42 = .ok (.invokevirtual 81, 3) := by decide +kernel
theorem dX8_readClause_45 : decode cX8_readClause 45 = .ok (.ifCond .eq 9, 3) := by decide +kernel
theorem dX8_readClause_48 : decode cX8_readClause 48 = .ok (.aload_n 0, 1) := by decide +kernel
theorem dX8_readClause_49 : decode cX8_readClause 49 = .ok (.iconst 4, 1) := by decide +kernel
theorem dX8_readClause_50 : decode cX8_readClause 50 = .ok (.invokevirtual 68, 3) := by decide +kernel
theorem dX8_readClause_53 : decode cX8_readClause 53 = .ok (.ireturn, 1) := by decide +kernel
theorem dX8_readClause_54 : decode cX8_readClause 54 = .ok (.aload_n 0, 1) := by decide +kernel
theorem dX8_readClause_55 : decode cX8_readClause 55 = .ok (.dup, 1) := by decide +kernel
theorem dX8_readClause_56 : decode cX8_readClause 56 = .ok (.getfield 28, 3) := by decide +kernel
theorem dX8_readClause_59 : decode cX8_readClause 59 = .ok (.iconst 1, 1) := by decide +kernel
theorem dX8_readClause_60 : decode cX8_readClause 60 = .ok (.iload_n 1, 1) := by decide +kernel
theorem dX8_readClause_61 : decode cX8_readClause 61 = .ok (.ishl, 1) := by decide +kernel
theorem dX8_readClause_62 : decode cX8_readClause 62 = .ok (.ior, 1) := by decide +kernel
theorem dX8_readClause_63 : decode cX8_readClause 63 = .ok (.putfield 28, 3) := by decide +kernel
theorem dX8_readClause_66 : decode cX8_readClause 66 = .ok (.iload_n 1, 1) := by decide +kernel
theorem dX8_readClause_67 : decode cX8_readClause 67 = .ok (.tableswitch 110 0 8 #[49, 54, 59, 71, 76, 88, 93, 99, 105], 49) := by decide +kernel
theorem dX8_readClause_116 : decode cX8_readClause 116 = .ok (.aload_n 0, 1) := by decide +kernel
theorem dX8_readClause_117 : decode cX8_readClause 117 = .ok (.invokevirtual 84, 3) := by decide +kernel
theorem dX8_readClause_120 : decode cX8_readClause 120 = .ok (.ireturn, 1) := by decide +kernel
theorem dX8_readClause_121 : decode cX8_readClause 121 = .ok (.aload_n 0, 1) := by decide +kernel
theorem dX8_readClause_122 : decode cX8_readClause 122 = .ok (.invokevirtual 87, 3) := by decide +kernel
theorem dX8_readClause_125 : decode cX8_readClause 125 = .ok (.ireturn, 1) := by decide +kernel
theorem dX8_readClause_126 : decode cX8_readClause 126 = .ok (.aload_n 0, 1) := by decide +kernel
theorem dX8_readClause_127 : decode cX8_readClause 127 = .ok (.aload_n 0, 1) := by decide +kernel
theorem dX8_readClause_128 : decode cX8_readClause 128 = .ok (.getfield 19, 3) := by decide +kernel
theorem dX8_readClause_131 : decode cX8_readClause 131 = .ok (.getfield 90, 3) := by decide +kernel
theorem dX8_readClause_134 : decode cX8_readClause 134 = .ok (.invokevirtual 94, 3) := by decide +kernel
theorem dX8_readClause_137 : decode cX8_readClause 137 = .ok (.ireturn, 1) := by decide +kernel
theorem dX8_readClause_138 : decode cX8_readClause 138 = .ok (.aload_n 0, 1) := by decide +kernel
theorem dX8_readClause_139 : decode cX8_readClause 139 = .ok (.invokevirtual 98, 3) := by decide +kernel
theorem dX8_readClause_142 : decode cX8_readClause 142 = .ok (.ireturn, 1) := by decide +kernel
theorem dX8_readClause_143 : decode cX8_readClause 143 = .ok (.aload_n 0, 1) := by decide +kernel
theorem dX8_readClause_144 : decode cX8_readClause 144 = .ok (.aload_n 0, 1) := by decide +kernel
theorem dX8_readClause_145 : decode cX8_readClause 145 = .ok (.getfield 19, 3) := by decide +kernel
theorem dX8_readClause_148 : decode cX8_readClause 148 = .ok (.getfield 101, 3) := by decide +kernel
theorem dX8_readClause_151 : decode cX8_readClause 151 = .ok (.invokevirtual 94, 3) := by decide +kernel
theorem dX8_readClause_154 : decode cX8_readClause 154 = .ok (.ireturn, 1) := by decide +kernel
theorem dX8_readClause_155 : decode cX8_readClause 155 = .ok (.aload_n 0, 1) := by decide +kernel
theorem dX8_readClause_156 : decode cX8_readClause 156 = .ok (.invokevirtual 104, 3) := by decide +kernel
theorem dX8_readClause_159 : decode cX8_readClause 159 = .ok (.ireturn, 1) := by decide +kernel
theorem dX8_readClause_160 : decode cX8_readClause 160 = .ok (.aload_n 0, 1) := by decide +kernel
theorem dX8_readClause_161 : decode cX8_readClause 161 = .ok (.iconst 1, 1) := by decide +kernel
theorem dX8_readClause_162 : decode cX8_readClause 162 = .ok (.invokevirtual 107, 3) := by decide +kernel
theorem dX8_readClause_165 : decode cX8_readClause 165 = .ok (.ireturn, 1) := by decide +kernel
theorem dX8_readClause_166 : decode cX8_readClause 166 = .ok (.aload_n 0, 1) := by decide +kernel
theorem dX8_readClause_167 : decode cX8_readClause 167 = .ok (.iconst 0, 1) := by decide +kernel
theorem dX8_readClause_168 : decode cX8_readClause 168 = .ok (.invokevirtual 107, 3) := by decide +kernel
theorem dX8_readClause_171 : decode cX8_readClause 171 = .ok (.ireturn, 1) := by decide +kernel
theorem dX8_readClause_172 : decode cX8_readClause 172 = .ok (.aload_n 0, 1) := by decide +kernel
theorem dX8_readClause_173 : decode cX8_readClause 173 = .ok (.invokevirtual 110, 3) := by decide +kernel
theorem dX8_readClause_176 : decode cX8_readClause 176 = .ok (.ireturn, 1) := by decide +kernel
theorem dX8_readClause_177 : decode cX8_readClause 177 = .ok (.aload_n 0, 1) := by decide +kernel
theorem dX8_readClause_178 : decode cX8_readClause 178 = .ok (.iload_n 1, 1) := by decide +kernel
theorem dX8_readClause_179 : decode cX8_readClause 179 = .ok (.invokevirtual 113, 3) := by decide +kernel
theorem dX8_readClause_182 : decode cX8_readClause 182 = .ok (.ireturn, 1) := by decide +kernel
noncomputable def f_X8_readClause_J40 (a0 : Nat) (l1 : Int32) (μ : Mm) : Option (Int32 × Mm) :=
  (f_X8_isRoomless a0 l1 μ).bind fun x42 => if x42 = 0 then (gf_I 9 2 a0 μ).bind fun x56 => (pf_I 9 2 a0 (x56 ||| ((1 : Int32) <<< (l1 &&& 31))) μ).bind fun μ63 => if l1 = 0 then (f_X8_readPerson a0 μ63).bind fun x117 => if x117.1 = 0 ∨ x117.1 = 1 then some (x117.1, x117.2) else none else if l1 = 1 then (f_X8_readDreams a0 μ63).bind fun x122 => if x122.1 = 0 ∨ x122.1 = 1 then some (x122.1, x122.2) else none else if l1 = 2 then (gf_P 9 1 a0 μ63).bind fun x128 => (gf_P 8 3 x128 μ63).bind fun x131 => (f_X8_readPersonAndDay a0 x131 μ63).bind fun x134 => if x134.1 = 0 ∨ x134.1 = 1 then some (x134.1, x134.2) else none else if l1 = 3 then (f_X8_readTalk a0 μ63).bind fun x139 => if x139.1 = 0 ∨ x139.1 = 1 then some (x139.1, x139.2) else none else if l1 = 4 then (gf_P 9 1 a0 μ63).bind fun x145 => (gf_P 8 5 x145 μ63).bind fun x148 => (f_X8_readPersonAndDay a0 x148 μ63).bind fun x151 => if x151.1 = 0 ∨ x151.1 = 1 then some (x151.1, x151.2) else none else if l1 = 5 then (f_X8_readDull a0 μ63).bind fun x156 => if x156.1 = 0 ∨ x156.1 = 1 then some (x156.1, x156.2) else none else if l1 = 6 then (f_X8_readWish a0 (1 : Int32) μ63).bind fun x162 => if x162.1 = 0 ∨ x162.1 = 1 then some (x162.1, x162.2) else none else if l1 = 7 then (f_X8_readWish a0 (0 : Int32) μ63).bind fun x168 => if x168.1 = 0 ∨ x168.1 = 1 then some (x168.1, x168.2) else none else if l1 = 8 then (f_X8_readTrade a0 μ63).bind fun x173 => if x173.1 = 0 ∨ x173.1 = 1 then some (x173.1, x173.2) else none else (f_X8_readSetting a0 l1 μ63).bind fun x179 => if x179.1 = 0 ∨ x179.1 = 1 then some (x179.1, x179.2) else none else (f_X8_fail a0 (4 : Int32) μ).bind fun x50 => if x50.1 = 0 ∨ x50.1 = 1 then some (x50.1, x50.2) else none
noncomputable def f_X8_readClause (a0 : Nat) (μ : Mm) : Option (Int32 × Mm) :=
  if (mm_K μ a0).1 = 9 then (f_X8_keyword a0 μ).bind fun x1 => if x1 = (-1 : Int32) then (f_X8_fail a0 (1 : Int32) μ).bind fun x12 => if x12.1 = 0 ∨ x12.1 = 1 then some (x12.1, x12.2) else none else (f_X8_isOnce x1 μ).bind fun x17 => if x17 = 0 then f_X8_readClause_J40 a0 x1 μ else (gf_I 9 2 a0 μ).bind fun x24 => if ((x24 >>> (x1 &&& 31)) &&& (1 : Int32)) = 0 then f_X8_readClause_J40 a0 x1 μ else (f_X8_fail a0 (3 : Int32) μ).bind fun x36 => if x36.1 = 0 ∨ x36.1 = 1 then some (x36.1, x36.2) else none else none
abbrev Rn_X8_readClause (G : Gv) (Q : Option Value → Mm → Prop) (pc : Nat) (lv : List (Nat × Value)) (st : List Value) (μ : Mm) : Prop := Rn G RX8 cX8_readClause 2 (some .boolean) "readClause" (rmd 7 0 0) (Zm G 0 0 Q) 0 0 pc lv st μ
set_option maxRecDepth 100000 in
set_option maxHeartbeats 4000000 in
theorem m_X8_readClause {G : Gv} (a0 : Nat) (μ : Mm) {r : (Int32 × Mm)} (hx : f_X8_readClause a0 μ = some r) : Mt G yX8_readClause cX8_readClause 2 (some .boolean) 7 0 0 [.ref a0] μ (fun v μ' => v = some (.int r.1) ∧ μ' = r.2) := by
  refine Mt.of (by decide) (Nat.le_of_ble_eq_true rfl) ?_
  show Rn_X8_readClause G (fun v μ' => v = some (.int r.1) ∧ μ' = r.2) 0 [(0, .ref a0)] [] μ
  obtain ⟨_, h⟩ := Sat_ifp (show Sat (f_X8_readClause a0 μ) (fun x => x = r) from ⟨_, hx, rfl⟩)
  have J40 : ∀ (a0_40 : Nat) (l1_40 : Int32) (μ_40 : Mm), Sat (f_X8_readClause_J40 a0_40 l1_40 μ_40) (fun x => x = r) → Rn_X8_readClause G (fun v μ' => v = some (.int r.1) ∧ μ' = r.2) 40 [(0, .ref a0_40), (1, .int l1_40)] [] μ_40 := by
    intro a0_40 l1_40 μ_40 h
    refine r_aload_n dX8_readClause_40 0 rfl ?_
    refine r_iload_n dX8_readClause_41 1 rfl ?_
    obtain ⟨x42, e42, h⟩ := Sat_bind h
    refine r_cV (t := 9) [.int l1_40] [] (m_X8_isRoomless a0_40 l1_40 μ_40 e42) ck_X8_isRoomless lk_X8_81 in_X8_isRoomless se_X8_isRoomless (kd_of e42) ⟨rfl, by decide, by decide⟩ rfl rfl (Nat.le_of_ble_eq_true rfl) ⟨by decide, by decide⟩ ⟨Nat.zero_le _, Nat.zero_le _⟩ dX8_readClause_42 ?_
    refine r_if_eq 54 dX8_readClause_45 (by decide) (fun c45 => ?_) (fun c45 => ?_)
    · have h := Sat_pos c45 h
      refine r_aload_n dX8_readClause_54 0 rfl ?_
      refine r_dup dX8_readClause_55 rfl ?_
      obtain ⟨x56, e56, h⟩ := Sat_bind h
      refine r_getI fk_X8_28 rfl e56 dX8_readClause_56 ?_
      refine r_iconst (v := 1) dX8_readClause_59 (by decide) ?_
      refine r_iload_n dX8_readClause_60 1 rfl ?_
      refine r_ishl dX8_readClause_61 ?_
      refine r_ior dX8_readClause_62 ?_
      obtain ⟨μ63, e63, h⟩ := Sat_bind h
      refine r_putI fk_X8_28 rfl rfl e63 dX8_readClause_63 ?_
      refine r_iload_n dX8_readClause_66 1 rfl ?_
      by_cases c67_0 : l1_40 = 0
      · have h := Sat_pos c67_0 h
        refine r_tabIn c67_0 49 116 dX8_readClause_67 (by decide) (by decide) (by decide) (by decide) ?_
        refine r_aload_n dX8_readClause_116 0 rfl ?_
        obtain ⟨x117, e117, h⟩ := Sat_bind h
        refine r_cV (t := 9) [] [] (m_X8_readPerson a0_40 μ63 e117) ck_X8_readPerson lk_X8_84 in_X8_readPerson se_X8_readPerson (kd_of e117) ⟨rfl, by decide, by decide⟩ rfl rfl (Nat.le_of_ble_eq_true rfl) ⟨by decide, by decide⟩ ⟨Nat.zero_le _, Nat.zero_le _⟩ dX8_readClause_117 ?_
        obtain ⟨hz, h⟩ := Sat_ifp h
        exact r_zreturn rfl hz (by rw [← Sat_eq h]; exact ⟨rfl, rfl⟩) dX8_readClause_120
      have h := Sat_neg c67_0 h
      by_cases c67_1 : l1_40 = 1
      · have h := Sat_pos c67_1 h
        refine r_tabIn c67_1 54 121 dX8_readClause_67 (by decide) (by decide) (by decide) (by decide) ?_
        refine r_aload_n dX8_readClause_121 0 rfl ?_
        obtain ⟨x122, e122, h⟩ := Sat_bind h
        refine r_cV (t := 9) [] [] (m_X8_readDreams a0_40 μ63 e122) ck_X8_readDreams lk_X8_87 in_X8_readDreams se_X8_readDreams (kd_of e122) ⟨rfl, by decide, by decide⟩ rfl rfl (Nat.le_of_ble_eq_true rfl) ⟨by decide, by decide⟩ ⟨Nat.zero_le _, Nat.zero_le _⟩ dX8_readClause_122 ?_
        obtain ⟨hz, h⟩ := Sat_ifp h
        exact r_zreturn rfl hz (by rw [← Sat_eq h]; exact ⟨rfl, rfl⟩) dX8_readClause_125
      have h := Sat_neg c67_1 h
      by_cases c67_2 : l1_40 = 2
      · have h := Sat_pos c67_2 h
        refine r_tabIn c67_2 59 126 dX8_readClause_67 (by decide) (by decide) (by decide) (by decide) ?_
        refine r_aload_n dX8_readClause_126 0 rfl ?_
        refine r_aload_n dX8_readClause_127 0 rfl ?_
        obtain ⟨x128, e128, h⟩ := Sat_bind h
        refine r_getP fk_X8_19 rfl e128 dX8_readClause_128 ?_
        obtain ⟨x131, e131, h⟩ := Sat_bind h
        refine r_getP fk_X8_90 rfl e131 dX8_readClause_131 ?_
        obtain ⟨x134, e134, h⟩ := Sat_bind h
        refine r_cV (t := 9) [.ref x131] [] (m_X8_readPersonAndDay a0_40 x131 μ63 e134) ck_X8_readPersonAndDay lk_X8_94 in_X8_readPersonAndDay se_X8_readPersonAndDay (kd_of e134) ⟨rfl, by decide, by decide⟩ rfl rfl (Nat.le_of_ble_eq_true rfl) ⟨by decide, by decide⟩ ⟨Nat.zero_le _, Nat.zero_le _⟩ dX8_readClause_134 ?_
        obtain ⟨hz, h⟩ := Sat_ifp h
        exact r_zreturn rfl hz (by rw [← Sat_eq h]; exact ⟨rfl, rfl⟩) dX8_readClause_137
      have h := Sat_neg c67_2 h
      by_cases c67_3 : l1_40 = 3
      · have h := Sat_pos c67_3 h
        refine r_tabIn c67_3 71 138 dX8_readClause_67 (by decide) (by decide) (by decide) (by decide) ?_
        refine r_aload_n dX8_readClause_138 0 rfl ?_
        obtain ⟨x139, e139, h⟩ := Sat_bind h
        refine r_cV (t := 9) [] [] (m_X8_readTalk a0_40 μ63 e139) ck_X8_readTalk lk_X8_98 in_X8_readTalk se_X8_readTalk (kd_of e139) ⟨rfl, by decide, by decide⟩ rfl rfl (Nat.le_of_ble_eq_true rfl) ⟨by decide, by decide⟩ ⟨Nat.zero_le _, Nat.zero_le _⟩ dX8_readClause_139 ?_
        obtain ⟨hz, h⟩ := Sat_ifp h
        exact r_zreturn rfl hz (by rw [← Sat_eq h]; exact ⟨rfl, rfl⟩) dX8_readClause_142
      have h := Sat_neg c67_3 h
      by_cases c67_4 : l1_40 = 4
      · have h := Sat_pos c67_4 h
        refine r_tabIn c67_4 76 143 dX8_readClause_67 (by decide) (by decide) (by decide) (by decide) ?_
        refine r_aload_n dX8_readClause_143 0 rfl ?_
        refine r_aload_n dX8_readClause_144 0 rfl ?_
        obtain ⟨x145, e145, h⟩ := Sat_bind h
        refine r_getP fk_X8_19 rfl e145 dX8_readClause_145 ?_
        obtain ⟨x148, e148, h⟩ := Sat_bind h
        refine r_getP fk_X8_101 rfl e148 dX8_readClause_148 ?_
        obtain ⟨x151, e151, h⟩ := Sat_bind h
        refine r_cV (t := 9) [.ref x148] [] (m_X8_readPersonAndDay a0_40 x148 μ63 e151) ck_X8_readPersonAndDay lk_X8_94 in_X8_readPersonAndDay se_X8_readPersonAndDay (kd_of e151) ⟨rfl, by decide, by decide⟩ rfl rfl (Nat.le_of_ble_eq_true rfl) ⟨by decide, by decide⟩ ⟨Nat.zero_le _, Nat.zero_le _⟩ dX8_readClause_151 ?_
        obtain ⟨hz, h⟩ := Sat_ifp h
        exact r_zreturn rfl hz (by rw [← Sat_eq h]; exact ⟨rfl, rfl⟩) dX8_readClause_154
      have h := Sat_neg c67_4 h
      by_cases c67_5 : l1_40 = 5
      · have h := Sat_pos c67_5 h
        refine r_tabIn c67_5 88 155 dX8_readClause_67 (by decide) (by decide) (by decide) (by decide) ?_
        refine r_aload_n dX8_readClause_155 0 rfl ?_
        obtain ⟨x156, e156, h⟩ := Sat_bind h
        refine r_cV (t := 9) [] [] (m_X8_readDull a0_40 μ63 e156) ck_X8_readDull lk_X8_104 in_X8_readDull se_X8_readDull (kd_of e156) ⟨rfl, by decide, by decide⟩ rfl rfl (Nat.le_of_ble_eq_true rfl) ⟨by decide, by decide⟩ ⟨Nat.zero_le _, Nat.zero_le _⟩ dX8_readClause_156 ?_
        obtain ⟨hz, h⟩ := Sat_ifp h
        exact r_zreturn rfl hz (by rw [← Sat_eq h]; exact ⟨rfl, rfl⟩) dX8_readClause_159
      have h := Sat_neg c67_5 h
      by_cases c67_6 : l1_40 = 6
      · have h := Sat_pos c67_6 h
        refine r_tabIn c67_6 93 160 dX8_readClause_67 (by decide) (by decide) (by decide) (by decide) ?_
        refine r_aload_n dX8_readClause_160 0 rfl ?_
        refine r_iconst (v := 1) dX8_readClause_161 (by decide) ?_
        obtain ⟨x162, e162, h⟩ := Sat_bind h
        refine r_cV (t := 9) [.int (1 : Int32)] [] (m_X8_readWish a0_40 (1 : Int32) μ63 e162) ck_X8_readWish lk_X8_107 in_X8_readWish se_X8_readWish (kd_of e162) ⟨rfl, by decide, by decide⟩ rfl rfl (Nat.le_of_ble_eq_true rfl) ⟨by decide, by decide⟩ ⟨Nat.zero_le _, Nat.zero_le _⟩ dX8_readClause_162 ?_
        obtain ⟨hz, h⟩ := Sat_ifp h
        exact r_zreturn rfl hz (by rw [← Sat_eq h]; exact ⟨rfl, rfl⟩) dX8_readClause_165
      have h := Sat_neg c67_6 h
      by_cases c67_7 : l1_40 = 7
      · have h := Sat_pos c67_7 h
        refine r_tabIn c67_7 99 166 dX8_readClause_67 (by decide) (by decide) (by decide) (by decide) ?_
        refine r_aload_n dX8_readClause_166 0 rfl ?_
        refine r_iconst (v := 0) dX8_readClause_167 (by decide) ?_
        obtain ⟨x168, e168, h⟩ := Sat_bind h
        refine r_cV (t := 9) [.int (0 : Int32)] [] (m_X8_readWish a0_40 (0 : Int32) μ63 e168) ck_X8_readWish lk_X8_107 in_X8_readWish se_X8_readWish (kd_of e168) ⟨rfl, by decide, by decide⟩ rfl rfl (Nat.le_of_ble_eq_true rfl) ⟨by decide, by decide⟩ ⟨Nat.zero_le _, Nat.zero_le _⟩ dX8_readClause_168 ?_
        obtain ⟨hz, h⟩ := Sat_ifp h
        exact r_zreturn rfl hz (by rw [← Sat_eq h]; exact ⟨rfl, rfl⟩) dX8_readClause_171
      have h := Sat_neg c67_7 h
      by_cases c67_8 : l1_40 = 8
      · have h := Sat_pos c67_8 h
        refine r_tabIn c67_8 105 172 dX8_readClause_67 (by decide) (by decide) (by decide) (by decide) ?_
        refine r_aload_n dX8_readClause_172 0 rfl ?_
        obtain ⟨x173, e173, h⟩ := Sat_bind h
        refine r_cV (t := 9) [] [] (m_X8_readTrade a0_40 μ63 e173) ck_X8_readTrade lk_X8_110 in_X8_readTrade se_X8_readTrade (kd_of e173) ⟨rfl, by decide, by decide⟩ rfl rfl (Nat.le_of_ble_eq_true rfl) ⟨by decide, by decide⟩ ⟨Nat.zero_le _, Nat.zero_le _⟩ dX8_readClause_173 ?_
        obtain ⟨hz, h⟩ := Sat_ifp h
        exact r_zreturn rfl hz (by rw [← Sat_eq h]; exact ⟨rfl, rfl⟩) dX8_readClause_176
      have h := Sat_neg c67_8 h
      refine r_tabOut 177 dX8_readClause_67 (tab_out9 c67_0 c67_1 c67_2 c67_3 c67_4 c67_5 c67_6 c67_7 c67_8) (by decide) ?_
      refine r_aload_n dX8_readClause_177 0 rfl ?_
      refine r_iload_n dX8_readClause_178 1 rfl ?_
      obtain ⟨x179, e179, h⟩ := Sat_bind h
      refine r_cV (t := 9) [.int l1_40] [] (m_X8_readSetting a0_40 l1_40 μ63 e179) ck_X8_readSetting lk_X8_113 in_X8_readSetting se_X8_readSetting (kd_of e179) ⟨rfl, by decide, by decide⟩ rfl rfl (Nat.le_of_ble_eq_true rfl) ⟨by decide, by decide⟩ ⟨Nat.zero_le _, Nat.zero_le _⟩ dX8_readClause_179 ?_
      obtain ⟨hz, h⟩ := Sat_ifp h
      exact r_zreturn rfl hz (by rw [← Sat_eq h]; exact ⟨rfl, rfl⟩) dX8_readClause_182
    · have h := Sat_neg c45 h
      refine r_aload_n dX8_readClause_48 0 rfl ?_
      refine r_iconst (v := 4) dX8_readClause_49 (by decide) ?_
      obtain ⟨x50, e50, h⟩ := Sat_bind h
      refine r_cV (t := 9) [.int (4 : Int32)] [] (m_X8_fail a0_40 (4 : Int32) μ_40 e50) ck_X8_fail lk_X8_68 in_X8_fail se_X8_fail (kd_of e50) ⟨rfl, by decide, by decide⟩ rfl rfl (Nat.le_of_ble_eq_true rfl) ⟨by decide, by decide⟩ ⟨Nat.zero_le _, Nat.zero_le _⟩ dX8_readClause_50 ?_
      obtain ⟨hz, h⟩ := Sat_ifp h
      exact r_zreturn rfl hz (by rw [← Sat_eq h]; exact ⟨rfl, rfl⟩) dX8_readClause_53
  refine r_aload_n dX8_readClause_0 0 rfl ?_
  obtain ⟨x1, e1, h⟩ := Sat_bind h
  refine r_cV (t := 9) [] [] (m_X8_keyword a0 μ e1) ck_X8_keyword lk_X8_75 in_X8_keyword se_X8_keyword (kd_of e1) ⟨rfl, by decide, by decide⟩ rfl rfl (Nat.le_of_ble_eq_true rfl) ⟨by decide, by decide⟩ ⟨Nat.zero_le _, Nat.zero_le _⟩ dX8_readClause_1 ?_
  refine r_istore_n (lv' := [(1, .int x1), (0, .ref a0)]) dX8_readClause_4 rfl (by decide) rfl ?_
  refine r_iload_n dX8_readClause_5 0 rfl ?_
  refine r_iconst (v := -1) dX8_readClause_6 (by decide) ?_
  refine r_icmp_ne 16 dX8_readClause_7 (by decide) (fun c7 => ?_) (fun c7 => ?_)
  · have h := Sat_neg c7 h
    refine r_iload_n dX8_readClause_16 0 rfl ?_
    obtain ⟨x17, e17, h⟩ := Sat_bind h
    refine r_cS [.int x1] [] (m_X8_isOnce x1 μ e17) ck_X8_isOnce lk_X8_78 st_X8_isOnce rfl rfl (Nat.le_of_ble_eq_true rfl) ⟨by decide, by decide⟩ ⟨Nat.zero_le _, Nat.zero_le _⟩ dX8_readClause_17 ?_
    refine r_if_eq 40 dX8_readClause_20 (by decide) (fun c20 => ?_) (fun c20 => ?_)
    · have h := Sat_pos c20 h
      exact r_sub [1, 0] rfl (J40 a0 x1 μ h)
    · have h := Sat_neg c20 h
      refine r_aload_n dX8_readClause_23 1 rfl ?_
      obtain ⟨x24, e24, h⟩ := Sat_bind h
      refine r_getI fk_X8_28 rfl e24 dX8_readClause_24 ?_
      refine r_iload_n dX8_readClause_27 0 rfl ?_
      refine r_ishr dX8_readClause_28 ?_
      refine r_iconst (v := 1) dX8_readClause_29 (by decide) ?_
      refine r_iand dX8_readClause_30 ?_
      refine r_if_eq 40 dX8_readClause_31 (by decide) (fun c31 => ?_) (fun c31 => ?_)
      · have h := Sat_pos c31 h
        exact r_sub [1, 0] rfl (J40 a0 x1 μ h)
      · have h := Sat_neg c31 h
        refine r_aload_n dX8_readClause_34 1 rfl ?_
        refine r_iconst (v := 3) dX8_readClause_35 (by decide) ?_
        obtain ⟨x36, e36, h⟩ := Sat_bind h
        refine r_cV (t := 9) [.int (3 : Int32)] [] (m_X8_fail a0 (3 : Int32) μ e36) ck_X8_fail lk_X8_68 in_X8_fail se_X8_fail (kd_of e36) ⟨rfl, by decide, by decide⟩ rfl rfl (Nat.le_of_ble_eq_true rfl) ⟨by decide, by decide⟩ ⟨Nat.zero_le _, Nat.zero_le _⟩ dX8_readClause_36 ?_
        obtain ⟨hz, h⟩ := Sat_ifp h
        exact r_zreturn rfl hz (by rw [← Sat_eq h]; exact ⟨rfl, rfl⟩) dX8_readClause_39
  · have h := Sat_pos c7 h
    refine r_aload_n dX8_readClause_10 1 rfl ?_
    refine r_iconst (v := 1) dX8_readClause_11 (by decide) ?_
    obtain ⟨x12, e12, h⟩ := Sat_bind h
    refine r_cV (t := 9) [.int (1 : Int32)] [] (m_X8_fail a0 (1 : Int32) μ e12) ck_X8_fail lk_X8_68 in_X8_fail se_X8_fail (kd_of e12) ⟨rfl, by decide, by decide⟩ rfl rfl (Nat.le_of_ble_eq_true rfl) ⟨by decide, by decide⟩ ⟨Nat.zero_le _, Nat.zero_le _⟩ dX8_readClause_12 ?_
    obtain ⟨hz, h⟩ := Sat_ifp h
    exact r_zreturn rfl hz (by rw [← Sat_eq h]; exact ⟨rfl, rfl⟩) dX8_readClause_15
theorem dX8_read_0 : decode cX8_read 0 = .ok (.aload_n 0, 1) := by decide +kernel
theorem dX8_read_1 : decode cX8_read 1 = .ok (.aload_n 1, 1) := by decide +kernel
theorem dX8_read_2 : decode cX8_read 2 = .ok (.putfield 19, 3) := by decide +kernel
theorem dX8_read_5 : decode cX8_read 5 = .ok (.aload_n 0, 1) := by decide +kernel
theorem dX8_read_6 : decode cX8_read 6 = .ok (.getfield 19, 3) := by decide +kernel
theorem dX8_read_9 : decode cX8_read 9 = .ok (.invokevirtual 23, 3) := by decide +kernel
theorem dX8_read_12 : decode cX8_read 12 = .ok (.aload_n 0, 1) := by decide +kernel
theorem dX8_read_13 : decode cX8_read 13 = .ok (.iconst 0, 1) := by decide +kernel
theorem dX8_read_14 : decode cX8_read 14 = .ok (.putfield 28, 3) := by decide +kernel
theorem dX8_read_17 : decode cX8_read 17 = .ok (.aload_n 0, 1) := by decide +kernel
theorem dX8_read_18 : decode cX8_read 18 = .ok (.iconst 0, 1) := by decide +kernel
theorem dX8_read_19 : decode cX8_read 19 = .ok (.putfield 31, 3) := by decide +kernel
theorem dX8_read_22 : decode cX8_read 22 = .ok (.aload_n 0, 1) := by decide +kernel
theorem dX8_read_23 : decode cX8_read 23 = .ok (.iconst (-1), 1) := by decide +kernel
theorem dX8_read_24 : decode cX8_read 24 = .ok (.putfield 9, 3) := by decide +kernel
theorem dX8_read_27 : decode cX8_read 27 = .ok (.aload_n 0, 1) := by decide +kernel
theorem dX8_read_28 : decode cX8_read 28 = .ok (.getfield 15, 3) := by decide +kernel
theorem dX8_read_31 : decode cX8_read 31 = .ok (.invokevirtual 34, 3) := by decide +kernel
theorem dX8_read_34 : decode cX8_read 34 = .ok (.aload_n 0, 1) := by decide +kernel
theorem dX8_read_35 : decode cX8_read 35 = .ok (.getfield 15, 3) := by decide +kernel
theorem dX8_read_38 : decode cX8_read 38 = .ok (.invokevirtual 39, 3) := by decide +kernel
theorem dX8_read_41 : decode cX8_read 41 = .ok (.iconst 0, 1) := by decide +kernel
theorem dX8_read_42 : decode cX8_read 42 = .ok (.istore_n 2, 1) := by decide +kernel
theorem dX8_read_43 : decode cX8_read 43 = .ok (.iload_n 2, 1) := by decide +kernel
theorem dX8_read_44 : decode cX8_read 44 = .ok (.sipush 900, 3) := by decide +kernel
theorem dX8_read_47 : decode cX8_read 47 = .ok (.if_icmp .ge 48, 3) := by decide +kernel
theorem dX8_read_50 : decode cX8_read 50 = .ok (.aload_n 0, 1) := by decide +kernel
theorem dX8_read_51 : decode cX8_read 51 = .ok (.getfield 15, 3) := by decide +kernel
theorem dX8_read_54 : decode cX8_read 54 = .ok (.getfield 44, 3) := by decide +kernel
theorem dX8_read_57 : decode cX8_read 57 = .ok (.ifCond .eq 38, 3) := by decide +kernel
theorem dX8_read_60 : decode cX8_read 60 = .ok (.aload_n 0, 1) := by decide +kernel
theorem dX8_read_61 : decode cX8_read 61 = .ok (.invokevirtual 47, 3) := by decide +kernel
theorem dX8_read_64 : decode cX8_read 64 = .ok (.ifCond .ne 5, 3) := by decide +kernel
theorem dX8_read_67 : decode cX8_read 67 = .ok (.iconst 0, 1) := by decide +kernel
theorem dX8_read_68 : decode cX8_read 68 = .ok (.ireturn, 1) := by decide +kernel
theorem dX8_read_69 : decode cX8_read 69 = .ok (.aload_n 0, 1) := by decide +kernel
theorem dX8_read_70 : decode cX8_read 70 = .ok (.getfield 19, 3) := by decide +kernel
theorem dX8_read_73 : decode cX8_read 73 = .ok (.dup, 1) := by decide +kernel
theorem dX8_read_74 : decode cX8_read 74 = .ok (.getfield 51, 3) := by decide +kernel
theorem dX8_read_77 : decode cX8_read 77 = .ok (.iconst 1, 1) := by decide +kernel
theorem dX8_read_78 : decode cX8_read 78 = .ok (.iadd, 1) := by decide +kernel
theorem dX8_read_79 : decode cX8_read 79 = .ok (.putfield 51, 3) := by decide +kernel
theorem dX8_read_82 : decode cX8_read 82 = .ok (.aload_n 0, 1) := by decide +kernel
theorem dX8_read_83 : decode cX8_read 83 = .ok (.getfield 15, 3) := by decide +kernel
theorem dX8_read_86 : decode cX8_read 86 = .ok (.invokevirtual 39, 3) := by decide +kernel
theorem dX8_read_89 : decode cX8_read 89 = .ok (.iinc 2 1, 3) := by decide +kernel
theorem dX8_read_92 : decode cX8_read 92 = .ok (.goto (-49), 3) := by decide +kernel
theorem dX8_read_95 : decode cX8_read 95 = .ok (.aload_n 0, 1) := by decide +kernel
theorem dX8_read_96 : decode cX8_read 96 = .ok (.getfield 19, 3) := by decide +kernel
theorem dX8_read_99 : decode cX8_read 99 = .ok (.getfield 54, 3) := by decide +kernel
theorem dX8_read_102 : decode cX8_read 102 = .ok (.aload_n 0, 1) := by decide +kernel
theorem dX8_read_103 : decode cX8_read 103 = .ok (.getfield 19, 3) := by decide +kernel
theorem dX8_read_106 : decode cX8_read 106 = .ok (.invokevirtual 58, 3) := by decide +kernel
theorem dX8_read_109 : decode cX8_read 109 = .ok (.aload_n 0, 1) := by decide +kernel
theorem dX8_read_110 : decode cX8_read 110 = .ok (.getfield 19, 3) := by decide +kernel
theorem dX8_read_113 : decode cX8_read 113 = .ok (.getfield 54, 3) := by decide +kernel
theorem dX8_read_116 : decode cX8_read 116 = .ok (.invokevirtual 64, 3) := by decide +kernel
theorem dX8_read_119 : decode cX8_read 119 = .ok (.ifCond .gt 11, 3) := by decide +kernel
theorem dX8_read_122 : decode cX8_read 122 = .ok (.aload_n 0, 1) := by decide +kernel
theorem dX8_read_123 : decode cX8_read 123 = .ok (.iconst 4, 1) := by decide +kernel
theorem dX8_read_124 : decode cX8_read 124 = .ok (.invokevirtual 68, 3) := by decide +kernel
theorem dX8_read_127 : decode cX8_read 127 = .ok (.ifCond .eq 7, 3) := by decide +kernel
theorem dX8_read_130 : decode cX8_read 130 = .ok (.iconst 1, 1) := by decide +kernel
theorem dX8_read_131 : decode cX8_read 131 = .ok (.goto 4, 3) := by decide +kernel
theorem dX8_read_134 : decode cX8_read 134 = .ok (.iconst 0, 1) := by decide +kernel
theorem dX8_read_135 : decode cX8_read 135 = .ok (.ireturn, 1) := by decide +kernel
noncomputable def f_X8_read_J130  (μ : Mm) : Option (Int32 × Mm) :=
  some ((1 : Int32), μ)
noncomputable def f_X8_read_J95 (a0 : Nat) (μ : Mm) : Option (Int32 × Mm) :=
  (gf_P 9 1 a0 μ).bind fun x96 => (gf_P 8 8 x96 μ).bind fun x99 => (gf_P 9 1 a0 μ).bind fun x103 => (f_X9_prepare x99 x103 μ).bind fun x106 => (gf_P 9 1 a0 x106).bind fun x110 => (gf_P 8 8 x110 x106).bind fun x113 => (f_X9_howMany x113 x106).bind fun x116 => if 0 < x116 then f_X8_read_J130 x106 else (f_X8_fail a0 (4 : Int32) x106).bind fun x124 => if x124.1 = 0 then some ((0 : Int32), x124.2) else f_X8_read_J130 x124.2
noncomputable def f_X8_read_L43 (a0 : Nat) (s43 : Int32 × Mm) : Option ((Int32 × Mm) ⊕ ((Mm) ⊕ (Mm))) :=
  if (900 : Int32) ≤ s43.1 then some (.inr (.inr s43.2)) else (gf_P 9 0 a0 s43.2).bind fun x51 => (gf_I 7 2 x51 s43.2).bind fun x54 => if x54 = 0 then some (.inr (.inr s43.2)) else (f_X8_readClause a0 s43.2).bind fun x61 => if x61.1 = 0 then some (.inr (.inl x61.2)) else (gf_P 9 1 a0 x61.2).bind fun x70 => (gf_I 8 16 x70 x61.2).bind fun x74 => (pf_I 8 16 x70 (x74 + (1 : Int32)) x61.2).bind fun μ79 => (gf_P 9 0 a0 μ79).bind fun x83 => (f_X6_advance x83 μ79).bind fun x86 => (some (s43.1 + (1 : Int32))).bind fun v89 => some (.inl (v89, x86))
noncomputable def f_X8_read (a0 : Nat) (l1 : Nat) (μ : Mm) : Option (Int32 × Mm) :=
  if (mm_K μ a0).1 = 9 then (pf_P 9 1 a0 l1 μ).bind fun μ2 => (gf_P 9 1 a0 μ2).bind fun x6 => (f_X7_clear x6 μ2).bind fun x9 => (pf_I 9 2 a0 (0 : Int32) x9).bind fun μ14 => (pf_I 9 3 a0 (0 : Int32) μ14).bind fun μ19 => (pf_I 9 4 a0 (-1 : Int32) μ19).bind fun μ24 => (gf_P 9 0 a0 μ24).bind fun x28 => (f_X6_rewind x28 μ24).bind fun x31 => (gf_P 9 0 a0 x31).bind fun x35 => (f_X6_advance x35 x31).bind fun x38 => (whl (f_X8_read_L43 a0) ((0 : Int32), x38)).bind (sm (fun b43 => some ((0 : Int32), b43)) (fun b43 => f_X8_read_J95 a0 b43)) else none
abbrev Rn_X8_read (G : Gv) (Q : Option Value → Mm → Prop) (pc : Nat) (lv : List (Nat × Value)) (st : List Value) (μ : Mm) : Prop := Rn G RX8 cX8_read 3 (some .boolean) "read" (rmd 8 0 0) (Zm G 0 0 Q) 0 0 pc lv st μ
set_option maxRecDepth 100000 in
set_option maxHeartbeats 4000000 in
theorem m_X8_read {G : Gv} (a0 : Nat) (l1 : Nat) (μ : Mm) {r : (Int32 × Mm)} (hx : f_X8_read a0 l1 μ = some r) : Mt G yX8_read cX8_read 3 (some .boolean) 8 0 0 [.ref a0, .ref l1] μ (fun v μ' => v = some (.int r.1) ∧ μ' = r.2) := by
  refine Mt.of (by decide) (Nat.le_of_ble_eq_true rfl) ?_
  show Rn_X8_read G (fun v μ' => v = some (.int r.1) ∧ μ' = r.2) 0 [(0, .ref a0), (1, .ref l1)] [] μ
  obtain ⟨_, h⟩ := Sat_ifp (show Sat (f_X8_read a0 l1 μ) (fun x => x = r) from ⟨_, hx, rfl⟩)
  have J130 : ∀ (μ_130 : Mm), Sat (f_X8_read_J130 μ_130) (fun x => x = r) → Rn_X8_read G (fun v μ' => v = some (.int r.1) ∧ μ' = r.2) 130 [] [] μ_130 := by
    intro μ_130 h
    refine r_iconst (v := 1) dX8_read_130 (by decide) ?_
    refine r_goto 135 dX8_read_131 (by decide) ?_
    exact r_zreturn rfl (by decide) (by rw [← Sat_eq h]; exact ⟨rfl, rfl⟩) dX8_read_135
  have J95 : ∀ (a0_95 : Nat) (μ_95 : Mm), Sat (f_X8_read_J95 a0_95 μ_95) (fun x => x = r) → Rn_X8_read G (fun v μ' => v = some (.int r.1) ∧ μ' = r.2) 95 [(0, .ref a0_95)] [] μ_95 := by
    intro a0_95 μ_95 h
    refine r_aload_n dX8_read_95 0 rfl ?_
    obtain ⟨x96, e96, h⟩ := Sat_bind h
    refine r_getP fk_X8_19 rfl e96 dX8_read_96 ?_
    obtain ⟨x99, e99, h⟩ := Sat_bind h
    refine r_getP fk_X8_54 rfl e99 dX8_read_99 ?_
    refine r_aload_n dX8_read_102 0 rfl ?_
    obtain ⟨x103, e103, h⟩ := Sat_bind h
    refine r_getP fk_X8_19 rfl e103 dX8_read_103 ?_
    obtain ⟨x106, e106, h⟩ := Sat_bind h
    refine r_cV (t := 10) [.ref x103] [] (m_X9_prepare x99 x103 μ_95 e106) ck_X9_prepare lk_X8_58 in_X9_prepare se_X9_prepare (kd_of e106) ⟨rfl, by decide, by decide⟩ rfl rfl (Nat.le_of_ble_eq_true rfl) ⟨by decide, by decide⟩ ⟨Nat.zero_le _, Nat.zero_le _⟩ dX8_read_106 ?_
    refine r_aload_n dX8_read_109 0 rfl ?_
    obtain ⟨x110, e110, h⟩ := Sat_bind h
    refine r_getP fk_X8_19 rfl e110 dX8_read_110 ?_
    obtain ⟨x113, e113, h⟩ := Sat_bind h
    refine r_getP fk_X8_54 rfl e113 dX8_read_113 ?_
    obtain ⟨x116, e116, h⟩ := Sat_bind h
    refine r_cV (t := 10) [] [] (m_X9_howMany x113 x106 e116) ck_X9_howMany lk_X8_64 in_X9_howMany se_X9_howMany (kd_of e116) ⟨rfl, by decide, by decide⟩ rfl rfl (Nat.le_of_ble_eq_true rfl) ⟨by decide, by decide⟩ ⟨Nat.zero_le _, Nat.zero_le _⟩ dX8_read_116 ?_
    refine r_if_gt 130 dX8_read_119 (by decide) (fun c119 => ?_) (fun c119 => ?_)
    · have h := Sat_pos c119 h
      exact r_sub [] rfl (J130 x106 h)
    · have h := Sat_neg c119 h
      refine r_aload_n dX8_read_122 0 rfl ?_
      refine r_iconst (v := 4) dX8_read_123 (by decide) ?_
      obtain ⟨x124, e124, h⟩ := Sat_bind h
      refine r_cV (t := 9) [.int (4 : Int32)] [] (m_X8_fail a0_95 (4 : Int32) x106 e124) ck_X8_fail lk_X8_68 in_X8_fail se_X8_fail (kd_of e124) ⟨rfl, by decide, by decide⟩ rfl rfl (Nat.le_of_ble_eq_true rfl) ⟨by decide, by decide⟩ ⟨Nat.zero_le _, Nat.zero_le _⟩ dX8_read_124 ?_
      refine r_if_eq 134 dX8_read_127 (by decide) (fun c127 => ?_) (fun c127 => ?_)
      · have h := Sat_pos c127 h
        refine r_iconst (v := 0) dX8_read_134 (by decide) ?_
        exact r_zreturn rfl (by decide) (by rw [← Sat_eq h]; exact ⟨rfl, rfl⟩) dX8_read_135
      · have h := Sat_neg c127 h
        exact r_sub [] rfl (J130 x124.2 h)
  refine r_aload_n dX8_read_0 0 rfl ?_
  refine r_aload_n dX8_read_1 1 rfl ?_
  obtain ⟨μ2, e2, h⟩ := Sat_bind h
  refine r_putP fk_X8_19 (Or.inl rfl) rfl e2 dX8_read_2 ?_
  refine r_aload_n dX8_read_5 0 rfl ?_
  obtain ⟨x6, e6, h⟩ := Sat_bind h
  refine r_getP fk_X8_19 rfl e6 dX8_read_6 ?_
  obtain ⟨x9, e9, h⟩ := Sat_bind h
  refine r_cV (t := 8) [] [] (m_X7_clear x6 μ2 e9) ck_X7_clear lk_X8_23 in_X7_clear se_X7_clear (kd_of e9) ⟨rfl, by decide, by decide⟩ rfl rfl (Nat.le_of_ble_eq_true rfl) ⟨by decide, by decide⟩ ⟨Nat.zero_le _, Nat.zero_le _⟩ dX8_read_9 ?_
  refine r_aload_n dX8_read_12 0 rfl ?_
  refine r_iconst (v := 0) dX8_read_13 (by decide) ?_
  obtain ⟨μ14, e14, h⟩ := Sat_bind h
  refine r_putI fk_X8_28 rfl rfl e14 dX8_read_14 ?_
  refine r_aload_n dX8_read_17 0 rfl ?_
  refine r_iconst (v := 0) dX8_read_18 (by decide) ?_
  obtain ⟨μ19, e19, h⟩ := Sat_bind h
  refine r_putI fk_X8_31 rfl rfl e19 dX8_read_19 ?_
  refine r_aload_n dX8_read_22 0 rfl ?_
  refine r_iconst (v := -1) dX8_read_23 (by decide) ?_
  obtain ⟨μ24, e24, h⟩ := Sat_bind h
  refine r_putI fk_X8_9 rfl rfl e24 dX8_read_24 ?_
  refine r_aload_n dX8_read_27 0 rfl ?_
  obtain ⟨x28, e28, h⟩ := Sat_bind h
  refine r_getP fk_X8_15 rfl e28 dX8_read_28 ?_
  obtain ⟨x31, e31, h⟩ := Sat_bind h
  refine r_cV (t := 7) [] [] (m_X6_rewind x28 μ24 e31) ck_X6_rewind lk_X8_34 in_X6_rewind se_X6_rewind (kd_of e31) ⟨rfl, by decide, by decide⟩ rfl rfl (Nat.le_of_ble_eq_true rfl) ⟨by decide, by decide⟩ ⟨Nat.zero_le _, Nat.zero_le _⟩ dX8_read_31 ?_
  refine r_aload_n dX8_read_34 0 rfl ?_
  obtain ⟨x35, e35, h⟩ := Sat_bind h
  refine r_getP fk_X8_15 rfl e35 dX8_read_35 ?_
  obtain ⟨x38, e38, h⟩ := Sat_bind h
  refine r_cV (t := 7) [] [] (m_X6_advance x35 x31 e38) ck_X6_advance lk_X8_39 in_X6_advance se_X6_advance (kd_of e38) ⟨rfl, by decide, by decide⟩ rfl rfl (Nat.le_of_ble_eq_true rfl) ⟨by decide, by decide⟩ ⟨Nat.zero_le _, Nat.zero_le _⟩ dX8_read_38 ?_
  refine r_iconst (v := 0) dX8_read_41 (by decide) ?_
  refine r_istore_n (lv' := [(2, .int (0 : Int32)), (0, .ref a0), (1, .ref l1)]) dX8_read_42 rfl (by decide) rfl ?_
  refine r_sub (lv' := [(0, .ref a0), (2, .int (0 : Int32))]) [1, 0] rfl ?_
  refine whl_K (s0 := (((0 : Int32), x38) : Int32 × Mm)) (RR := fun (s43 : Int32 × Mm) => Rn_X8_read G (fun v μ' => v = some (.int r.1) ∧ μ' = r.2) 43 [(0, .ref a0), (2, .int s43.1)] [] s43.2) ?_ (Sat_bindK h)
  intro s43 K43 hI43 hX43 h
  refine r_iload_n dX8_read_43 1 rfl ?_
  refine r_sipush (v := 900) dX8_read_44 (by decide) ?_
  refine r_icmp_ge 95 dX8_read_47 (by decide) (fun c47 => ?_) (fun c47 => ?_)
  · have h := Sat_pos c47 h
    have h := hX43 _ (Sat_some h)
    exact r_sub [0] rfl (J95 a0 s43.2 h)
  · have h := Sat_neg c47 h
    refine r_aload_n dX8_read_50 0 rfl ?_
    obtain ⟨x51, e51, h⟩ := Sat_bind h
    refine r_getP fk_X8_15 rfl e51 dX8_read_51 ?_
    obtain ⟨x54, e54, h⟩ := Sat_bind h
    refine r_getI fk_X8_44 rfl e54 dX8_read_54 ?_
    refine r_if_eq 95 dX8_read_57 (by decide) (fun c57 => ?_) (fun c57 => ?_)
    · have h := Sat_pos c57 h
      have h := hX43 _ (Sat_some h)
      exact r_sub [0] rfl (J95 a0 s43.2 h)
    · have h := Sat_neg c57 h
      refine r_aload_n dX8_read_60 0 rfl ?_
      obtain ⟨x61, e61, h⟩ := Sat_bind h
      refine r_cV (t := 9) [] [] (m_X8_readClause a0 s43.2 e61) ck_X8_readClause lk_X8_47 in_X8_readClause se_X8_readClause (kd_of e61) ⟨rfl, by decide, by decide⟩ rfl rfl (Nat.le_of_ble_eq_true rfl) ⟨by decide, by decide⟩ ⟨Nat.zero_le _, Nat.zero_le _⟩ dX8_read_61 ?_
      refine r_if_ne 69 dX8_read_64 (by decide) (fun c64 => ?_) (fun c64 => ?_)
      · have h := Sat_neg c64 h
        refine r_aload_n dX8_read_69 0 rfl ?_
        obtain ⟨x70, e70, h⟩ := Sat_bind h
        refine r_getP fk_X8_19 rfl e70 dX8_read_70 ?_
        refine r_dup dX8_read_73 rfl ?_
        obtain ⟨x74, e74, h⟩ := Sat_bind h
        refine r_getI fk_X8_51 rfl e74 dX8_read_74 ?_
        refine r_iconst (v := 1) dX8_read_77 (by decide) ?_
        refine r_iadd dX8_read_78 ?_
        obtain ⟨μ79, e79, h⟩ := Sat_bind h
        refine r_putI fk_X8_51 rfl rfl e79 dX8_read_79 ?_
        refine r_aload_n dX8_read_82 0 rfl ?_
        obtain ⟨x83, e83, h⟩ := Sat_bind h
        refine r_getP fk_X8_15 rfl e83 dX8_read_83 ?_
        obtain ⟨x86, e86, h⟩ := Sat_bind h
        refine r_cV (t := 7) [] [] (m_X6_advance x83 μ79 e86) ck_X6_advance lk_X8_39 in_X6_advance se_X6_advance (kd_of e86) ⟨rfl, by decide, by decide⟩ rfl rfl (Nat.le_of_ble_eq_true rfl) ⟨by decide, by decide⟩ ⟨Nat.zero_le _, Nat.zero_le _⟩ dX8_read_86 ?_
        obtain ⟨v89, e89, h⟩ := Sat_bind h
        refine r_iinc (j := 1) (v := v89) (lv' := [(2, .int v89), (0, .ref a0)]) dX8_read_89 rfl (iinc_v e89 (by decide)) (by decide) rfl ?_
        refine r_goto 43 dX8_read_92 (by decide) ?_
        exact r_sub [1, 0] rfl (hI43 _ (Sat_some h))
      · have h := Sat_pos c64 h
        have h := hX43 _ (Sat_some h)
        refine r_iconst (v := 0) dX8_read_67 (by decide) ?_
        exact r_zreturn rfl (by decide) (by rw [← Sat_eq h]; exact ⟨rfl, rfl⟩) dX8_read_68
theorem dX10_town_0 : decode cX10_town 0 = .ok (.aload_n 0, 1) := by decide +kernel
theorem dX10_town_1 : decode cX10_town 1 = .ok (.getfield 75, 3) := by decide +kernel
theorem dX10_town_4 : decode cX10_town 4 = .ok (.aload_n 0, 1) := by decide +kernel
theorem dX10_town_5 : decode cX10_town 5 = .ok (.getfield 67, 3) := by decide +kernel
theorem dX10_town_8 : decode cX10_town 8 = .ok (.invokevirtual 140, 3) := by decide +kernel
theorem dX10_town_11 : decode cX10_town 11 = .ok (.istore_n 1, 1) := by decide +kernel
theorem dX10_town_12 : decode cX10_town 12 = .ok (.aload_n 0, 1) := by decide +kernel
theorem dX10_town_13 : decode cX10_town 13 = .ok (.getfield 10, 3) := by decide +kernel
theorem dX10_town_16 : decode cX10_town 16 = .ok (.iconst 0, 1) := by decide +kernel
theorem dX10_town_17 : decode cX10_town 17 = .ok (.putfield 137, 3) := by decide +kernel
theorem dX10_town_20 : decode cX10_town 20 = .ok (.iload_n 1, 1) := by decide +kernel
theorem dX10_town_21 : decode cX10_town 21 = .ok (.ifCond .ne 5, 3) := by decide +kernel
theorem dX10_town_24 : decode cX10_town 24 = .ok (.iconst (-1), 1) := by decide +kernel
theorem dX10_town_25 : decode cX10_town 25 = .ok (.ireturn, 1) := by decide +kernel
theorem dX10_town_26 : decode cX10_town 26 = .ok (.aload_n 0, 1) := by decide +kernel
theorem dX10_town_27 : decode cX10_town 27 = .ok (.getfield 63, 3) := by decide +kernel
theorem dX10_town_30 : decode cX10_town 30 = .ok (.astore_n 2, 1) := by decide +kernel
theorem dX10_town_31 : decode cX10_town 31 = .ok (.aload_n 0, 1) := by decide +kernel
theorem dX10_town_32 : decode cX10_town 32 = .ok (.aload_n 0, 1) := by decide +kernel
theorem dX10_town_33 : decode cX10_town 33 = .ok (.getfield 67, 3) := by decide +kernel
theorem dX10_town_36 : decode cX10_town 36 = .ok (.putfield 63, 3) := by decide +kernel
theorem dX10_town_39 : decode cX10_town 39 = .ok (.aload_n 0, 1) := by decide +kernel
theorem dX10_town_40 : decode cX10_town 40 = .ok (.aload_n 2, 1) := by decide +kernel
theorem dX10_town_41 : decode cX10_town 41 = .ok (.putfield 67, 3) := by decide +kernel
theorem dX10_town_44 : decode cX10_town 44 = .ok (.aload_n 0, 1) := by decide +kernel
theorem dX10_town_45 : decode cX10_town 45 = .ok (.invokevirtual 109, 3) := by decide +kernel
theorem dX10_town_48 : decode cX10_town 48 = .ok (.aload_n 0, 1) := by decide +kernel
theorem dX10_town_49 : decode cX10_town 49 = .ok (.getfield 63, 3) := by decide +kernel
theorem dX10_town_52 : decode cX10_town 52 = .ok (.getfield 144, 3) := by decide +kernel
theorem dX10_town_55 : decode cX10_town 55 = .ok (.ireturn, 1) := by decide +kernel
noncomputable def f_X10_town (a0 : Nat) (μ : Mm) : Option (Int32 × Mm) :=
  if (mm_K μ a0).1 = 11 then (gf_P 11 2 a0 μ).bind fun x1 => (gf_P 11 14 a0 μ).bind fun x5 => (f_X8_read x1 x5 μ).bind fun x8 => (gf_P 11 0 a0 x8.2).bind fun x13 => (pf_I 6 1 x13 (0 : Int32) x8.2).bind fun μ17 => if x8.1 = 0 then some ((-1 : Int32), μ17) else (gf_P 11 13 a0 μ17).bind fun x27 => (gf_P 11 14 a0 μ17).bind fun x33 => (pf_P 11 13 a0 x33 μ17).bind fun μ36 => (pf_P 11 14 a0 x27 μ36).bind fun μ41 => (f_X10_settle a0 μ41).bind fun x45 => (gf_P 11 13 a0 x45).bind fun x49 => (gf_I 8 16 x49 x45).bind fun x52 => some (x52, x45) else none
abbrev Rn_X10_town (G : Gv) (Q : Option Value → Mm → Prop) (pc : Nat) (lv : List (Nat × Value)) (st : List Value) (μ : Mm) : Prop := Rn G RX10 cX10_town 3 (some .int) "town" (rmd 9 0 0) (Zm G 0 0 Q) 0 0 pc lv st μ
set_option maxRecDepth 100000 in
set_option maxHeartbeats 4000000 in
theorem m_X10_town {G : Gv} (a0 : Nat) (μ : Mm) {r : (Int32 × Mm)} (hx : f_X10_town a0 μ = some r) : Mt G yX10_town cX10_town 3 (some .int) 9 0 0 [.ref a0] μ (fun v μ' => v = some (.int r.1) ∧ μ' = r.2) := by
  refine Mt.of (by decide) (Nat.le_of_ble_eq_true rfl) ?_
  show Rn_X10_town G (fun v μ' => v = some (.int r.1) ∧ μ' = r.2) 0 [(0, .ref a0)] [] μ
  obtain ⟨_, h⟩ := Sat_ifp (show Sat (f_X10_town a0 μ) (fun x => x = r) from ⟨_, hx, rfl⟩)
  refine r_aload_n dX10_town_0 0 rfl ?_
  obtain ⟨x1, e1, h⟩ := Sat_bind h
  refine r_getP fk_X10_75 rfl e1 dX10_town_1 ?_
  refine r_aload_n dX10_town_4 0 rfl ?_
  obtain ⟨x5, e5, h⟩ := Sat_bind h
  refine r_getP fk_X10_67 rfl e5 dX10_town_5 ?_
  obtain ⟨x8, e8, h⟩ := Sat_bind h
  refine r_cV (t := 9) [.ref x5] [] (m_X8_read x1 x5 μ e8) ck_X8_read lk_X10_140 in_X8_read se_X8_read (kd_of e8) ⟨rfl, by decide, by decide⟩ rfl rfl (Nat.le_of_ble_eq_true rfl) ⟨by decide, by decide⟩ ⟨Nat.zero_le _, Nat.zero_le _⟩ dX10_town_8 ?_
  refine r_istore_n (lv' := [(1, .int x8.1), (0, .ref a0)]) dX10_town_11 rfl (by decide) rfl ?_
  refine r_aload_n dX10_town_12 1 rfl ?_
  obtain ⟨x13, e13, h⟩ := Sat_bind h
  refine r_getP fk_X10_10 rfl e13 dX10_town_13 ?_
  refine r_iconst (v := 0) dX10_town_16 (by decide) ?_
  obtain ⟨μ17, e17, h⟩ := Sat_bind h
  refine r_putI fk_X10_137 rfl rfl e17 dX10_town_17 ?_
  refine r_iload_n dX10_town_20 0 rfl ?_
  refine r_if_ne 26 dX10_town_21 (by decide) (fun c21 => ?_) (fun c21 => ?_)
  · have h := Sat_neg c21 h
    refine r_aload_n dX10_town_26 1 rfl ?_
    obtain ⟨x27, e27, h⟩ := Sat_bind h
    refine r_getP fk_X10_63 rfl e27 dX10_town_27 ?_
    refine r_astore_n (lv' := [(2, .ref x27), (1, .int x8.1), (0, .ref a0)]) dX10_town_30 rfl (by decide) rfl ?_
    refine r_aload_n dX10_town_31 2 rfl ?_
    refine r_aload_n dX10_town_32 2 rfl ?_
    obtain ⟨x33, e33, h⟩ := Sat_bind h
    refine r_getP fk_X10_67 rfl e33 dX10_town_33 ?_
    obtain ⟨μ36, e36, h⟩ := Sat_bind h
    refine r_putP fk_X10_63 (Or.inl rfl) rfl e36 dX10_town_36 ?_
    refine r_aload_n dX10_town_39 2 rfl ?_
    refine r_aload_n dX10_town_40 0 rfl ?_
    obtain ⟨μ41, e41, h⟩ := Sat_bind h
    refine r_putP fk_X10_67 (Or.inl rfl) rfl e41 dX10_town_41 ?_
    refine r_aload_n dX10_town_44 2 rfl ?_
    obtain ⟨x45, e45, h⟩ := Sat_bind h
    refine r_cV (t := 11) [] [] (m_X10_settle a0 μ41 e45) ck_X10_settle lk_X10_109 in_X10_settle se_X10_settle (kd_of e45) ⟨rfl, by decide, by decide⟩ rfl rfl (Nat.le_of_ble_eq_true rfl) ⟨by decide, by decide⟩ ⟨Nat.zero_le _, Nat.zero_le _⟩ dX10_town_45 ?_
    refine r_aload_n dX10_town_48 2 rfl ?_
    obtain ⟨x49, e49, h⟩ := Sat_bind h
    refine r_getP fk_X10_63 rfl e49 dX10_town_49 ?_
    obtain ⟨x52, e52, h⟩ := Sat_bind h
    refine r_getI fk_X10_144 rfl e52 dX10_town_52 ?_
    exact r_ireturn rfl (by rw [← Sat_eq h]; exact ⟨rfl, rfl⟩) dX10_town_55
  · have h := Sat_pos c21 h
    refine r_iconst (v := -1) dX10_town_24 (by decide) ?_
    exact r_ireturn rfl (by rw [← Sat_eq h]; exact ⟨rfl, rfl⟩) dX10_town_25
theorem dX10_turn_0 : decode cX10_turn 0 = .ok (.iload_n 1, 1) := by decide +kernel
theorem dX10_turn_1 : decode cX10_turn 1 = .ok (.ifCond .lt 17, 3) := by decide +kernel
theorem dX10_turn_4 : decode cX10_turn 4 = .ok (.iload_n 1, 1) := by decide +kernel
theorem dX10_turn_5 : decode cX10_turn 5 = .ok (.aload_n 0, 1) := by decide +kernel
theorem dX10_turn_6 : decode cX10_turn 6 = .ok (.getfield 63, 3) := by decide +kernel
theorem dX10_turn_9 : decode cX10_turn 9 = .ok (.getfield 100, 3) := by decide +kernel
theorem dX10_turn_12 : decode cX10_turn 12 = .ok (.invokevirtual 195, 3) := by decide +kernel
theorem dX10_turn_15 : decode cX10_turn 15 = .ok (.if_icmp .lt 6, 3) := by decide +kernel
theorem dX10_turn_18 : decode cX10_turn 18 = .ok (.bipush (-2), 2) := by decide +kernel
theorem dX10_turn_20 : decode cX10_turn 20 = .ok (.ireturn, 1) := by decide +kernel
theorem dX10_turn_21 : decode cX10_turn 21 = .ok (.aload_n 0, 1) := by decide +kernel
theorem dX10_turn_22 : decode cX10_turn 22 = .ok (.aload_n 0, 1) := by decide +kernel
theorem dX10_turn_23 : decode cX10_turn 23 = .ok (.getfield 63, 3) := by decide +kernel
theorem dX10_turn_26 : decode cX10_turn 26 = .ok (.getfield 100, 3) := by decide +kernel
theorem dX10_turn_29 : decode cX10_turn 29 = .ok (.iload_n 1, 1) := by decide +kernel
theorem dX10_turn_30 : decode cX10_turn 30 = .ok (.invokevirtual 112, 3) := by decide +kernel
theorem dX10_turn_33 : decode cX10_turn 33 = .ok (.putfield 116, 3) := by decide +kernel
theorem dX10_turn_36 : decode cX10_turn 36 = .ok (.iconst 1, 1) := by decide +kernel
theorem dX10_turn_37 : decode cX10_turn 37 = .ok (.ireturn, 1) := by decide +kernel
noncomputable def f_X10_turn (a0 : Nat) (l1 : Int32) (μ : Mm) : Option (Int32 × Mm) :=
  if (mm_K μ a0).1 = 11 then if l1 < 0 then some ((-2 : Int32), μ) else (gf_P 11 13 a0 μ).bind fun x6 => (gf_P 8 8 x6 μ).bind fun x9 => (f_X9_howMany x9 μ).bind fun x12 => if l1 < x12 then (gf_P 11 13 a0 μ).bind fun x23 => (gf_P 8 8 x23 μ).bind fun x26 => (f_X9_rowOf x26 l1 μ).bind fun x30 => (pf_I 11 15 a0 x30 μ).bind fun μ33 => some ((1 : Int32), μ33) else some ((-2 : Int32), μ) else none
abbrev Rn_X10_turn (G : Gv) (Q : Option Value → Mm → Prop) (pc : Nat) (lv : List (Nat × Value)) (st : List Value) (μ : Mm) : Prop := Rn G RX10 cX10_turn 2 (some .int) "turn" (rmd 2 0 0) (Zm G 0 0 Q) 0 0 pc lv st μ
set_option maxRecDepth 100000 in
set_option maxHeartbeats 4000000 in
theorem m_X10_turn {G : Gv} (a0 : Nat) (l1 : Int32) (μ : Mm) {r : (Int32 × Mm)} (hx : f_X10_turn a0 l1 μ = some r) : Mt G yX10_turn cX10_turn 2 (some .int) 2 0 0 [.ref a0, .int l1] μ (fun v μ' => v = some (.int r.1) ∧ μ' = r.2) := by
  refine Mt.of (by decide) (Nat.le_of_ble_eq_true rfl) ?_
  show Rn_X10_turn G (fun v μ' => v = some (.int r.1) ∧ μ' = r.2) 0 [(0, .ref a0), (1, .int l1)] [] μ
  obtain ⟨_, h⟩ := Sat_ifp (show Sat (f_X10_turn a0 l1 μ) (fun x => x = r) from ⟨_, hx, rfl⟩)
  refine r_iload_n dX10_turn_0 1 rfl ?_
  refine r_if_lt 18 dX10_turn_1 (by decide) (fun c1 => ?_) (fun c1 => ?_)
  · have h := Sat_pos c1 h
    refine r_bipush (v := -2) dX10_turn_18 (by decide) ?_
    exact r_ireturn rfl (by rw [← Sat_eq h]; exact ⟨rfl, rfl⟩) dX10_turn_20
  · have h := Sat_neg c1 h
    refine r_iload_n dX10_turn_4 1 rfl ?_
    refine r_aload_n dX10_turn_5 0 rfl ?_
    obtain ⟨x6, e6, h⟩ := Sat_bind h
    refine r_getP fk_X10_63 rfl e6 dX10_turn_6 ?_
    obtain ⟨x9, e9, h⟩ := Sat_bind h
    refine r_getP fk_X10_100 rfl e9 dX10_turn_9 ?_
    obtain ⟨x12, e12, h⟩ := Sat_bind h
    refine r_cV (t := 10) [] [.int l1] (m_X9_howMany x9 μ e12) ck_X9_howMany lk_X10_195 in_X9_howMany se_X9_howMany (kd_of e12) ⟨rfl, by decide, by decide⟩ rfl rfl (Nat.le_of_ble_eq_true rfl) ⟨by decide, by decide⟩ ⟨Nat.zero_le _, Nat.zero_le _⟩ dX10_turn_12 ?_
    refine r_icmp_lt 21 dX10_turn_15 (by decide) (fun c15 => ?_) (fun c15 => ?_)
    · have h := Sat_pos c15 h
      refine r_aload_n dX10_turn_21 0 rfl ?_
      refine r_aload_n dX10_turn_22 0 rfl ?_
      obtain ⟨x23, e23, h⟩ := Sat_bind h
      refine r_getP fk_X10_63 rfl e23 dX10_turn_23 ?_
      obtain ⟨x26, e26, h⟩ := Sat_bind h
      refine r_getP fk_X10_100 rfl e26 dX10_turn_26 ?_
      refine r_iload_n dX10_turn_29 1 rfl ?_
      obtain ⟨x30, e30, h⟩ := Sat_bind h
      refine r_cV (t := 10) [.int l1] [.ref a0] (m_X9_rowOf x26 l1 μ e30) ck_X9_rowOf lk_X10_112 in_X9_rowOf se_X9_rowOf (kd_of e30) ⟨rfl, by decide, by decide⟩ rfl rfl (Nat.le_of_ble_eq_true rfl) ⟨by decide, by decide⟩ ⟨Nat.zero_le _, Nat.zero_le _⟩ dX10_turn_30 ?_
      obtain ⟨μ33, e33, h⟩ := Sat_bind h
      refine r_putI fk_X10_116 rfl rfl e33 dX10_turn_33 ?_
      refine r_iconst (v := 1) dX10_turn_36 (by decide) ?_
      exact r_ireturn rfl (by rw [← Sat_eq h]; exact ⟨rfl, rfl⟩) dX10_turn_37
    · have h := Sat_neg c15 h
      refine r_bipush (v := -2) dX10_turn_18 (by decide) ?_
      exact r_ireturn rfl (by rw [← Sat_eq h]; exact ⟨rfl, rfl⟩) dX10_turn_20
theorem dX10_turnings_0 : decode cX10_turnings 0 = .ok (.aload_n 0, 1) := by decide +kernel
theorem dX10_turnings_1 : decode cX10_turnings 1 = .ok (.getfield 63, 3) := by decide +kernel
theorem dX10_turnings_4 : decode cX10_turnings 4 = .ok (.getfield 100, 3) := by decide +kernel
theorem dX10_turnings_7 : decode cX10_turnings 7 = .ok (.invokevirtual 195, 3) := by decide +kernel
theorem dX10_turnings_10 : decode cX10_turnings 10 = .ok (.ireturn, 1) := by decide +kernel
noncomputable def f_X10_turnings (a0 : Nat) (μ : Mm) : Option Int32 :=
  if (mm_K μ a0).1 = 11 then (gf_P 11 13 a0 μ).bind fun x1 => (gf_P 8 8 x1 μ).bind fun x4 => (f_X9_howMany x4 μ).bind fun x7 => some x7 else none
abbrev Rn_X10_turnings (G : Gv) (Q : Option Value → Mm → Prop) (pc : Nat) (lv : List (Nat × Value)) (st : List Value) (μ : Mm) : Prop := Rn G RX10 cX10_turnings 1 (some .int) "turnings" (rmd 1 0 0) (Zm G 0 0 Q) 0 0 pc lv st μ
set_option maxRecDepth 100000 in
set_option maxHeartbeats 4000000 in
theorem m_X10_turnings {G : Gv} (a0 : Nat) (μ : Mm) {r : Int32} (hx : f_X10_turnings a0 μ = some r) : Mt G yX10_turnings cX10_turnings 1 (some .int) 1 0 0 [.ref a0] μ (fun v μ' => v = some (.int r) ∧ μ' = μ) := by
  refine Mt.of (by decide) (Nat.le_of_ble_eq_true rfl) ?_
  show Rn_X10_turnings G (fun v μ' => v = some (.int r) ∧ μ' = μ) 0 [(0, .ref a0)] [] μ
  obtain ⟨_, h⟩ := Sat_ifp (show Sat (f_X10_turnings a0 μ) (fun x => x = r) from ⟨_, hx, rfl⟩)
  refine r_aload_n dX10_turnings_0 0 rfl ?_
  obtain ⟨x1, e1, h⟩ := Sat_bind h
  refine r_getP fk_X10_63 rfl e1 dX10_turnings_1 ?_
  obtain ⟨x4, e4, h⟩ := Sat_bind h
  refine r_getP fk_X10_100 rfl e4 dX10_turnings_4 ?_
  obtain ⟨x7, e7, h⟩ := Sat_bind h
  refine r_cV (t := 10) [] [] (m_X9_howMany x4 μ e7) ck_X9_howMany lk_X10_195 in_X9_howMany se_X9_howMany (kd_of e7) ⟨rfl, by decide, by decide⟩ rfl rfl (Nat.le_of_ble_eq_true rfl) ⟨by decide, by decide⟩ ⟨Nat.zero_le _, Nat.zero_le _⟩ dX10_turnings_7 ?_
  exact r_ireturn rfl (by rw [← Sat_eq h]; exact ⟨rfl, rfl⟩) dX10_turnings_10
theorem dX10_wishes_0 : decode cX10_wishes 0 = .ok (.aload_n 0, 1) := by decide +kernel
theorem dX10_wishes_1 : decode cX10_wishes 1 = .ok (.getfield 63, 3) := by decide +kernel
theorem dX10_wishes_4 : decode cX10_wishes 4 = .ok (.getfield 327, 3) := by decide +kernel
theorem dX10_wishes_7 : decode cX10_wishes 7 = .ok (.getfield 160, 3) := by decide +kernel
theorem dX10_wishes_10 : decode cX10_wishes 10 = .ok (.ireturn, 1) := by decide +kernel
noncomputable def f_X10_wishes (a0 : Nat) (μ : Mm) : Option Int32 :=
  if (mm_K μ a0).1 = 11 then (gf_P 11 13 a0 μ).bind fun x1 => (gf_P 8 7 x1 μ).bind fun x4 => (gf_I 3 1 x4 μ).bind fun x7 => some x7 else none
abbrev Rn_X10_wishes (G : Gv) (Q : Option Value → Mm → Prop) (pc : Nat) (lv : List (Nat × Value)) (st : List Value) (μ : Mm) : Prop := Rn G RX10 cX10_wishes 1 (some .int) "wishes" (rmd 0 0 0) (Zm G 0 0 Q) 0 0 pc lv st μ
set_option maxRecDepth 100000 in
set_option maxHeartbeats 4000000 in
theorem m_X10_wishes {G : Gv} (a0 : Nat) (μ : Mm) {r : Int32} (hx : f_X10_wishes a0 μ = some r) : Mt G yX10_wishes cX10_wishes 1 (some .int) 0 0 0 [.ref a0] μ (fun v μ' => v = some (.int r) ∧ μ' = μ) := by
  refine Mt.of (by decide) (Nat.le_of_ble_eq_true rfl) ?_
  show Rn_X10_wishes G (fun v μ' => v = some (.int r) ∧ μ' = μ) 0 [(0, .ref a0)] [] μ
  obtain ⟨_, h⟩ := Sat_ifp (show Sat (f_X10_wishes a0 μ) (fun x => x = r) from ⟨_, hx, rfl⟩)
  refine r_aload_n dX10_wishes_0 0 rfl ?_
  obtain ⟨x1, e1, h⟩ := Sat_bind h
  refine r_getP fk_X10_63 rfl e1 dX10_wishes_1 ?_
  obtain ⟨x4, e4, h⟩ := Sat_bind h
  refine r_getP fk_X10_327 rfl e4 dX10_wishes_4 ?_
  obtain ⟨x7, e7, h⟩ := Sat_bind h
  refine r_getI fk_X10_160 rfl e7 dX10_wishes_7 ?_
  exact r_ireturn rfl (by rw [← Sat_eq h]; exact ⟨rfl, rfl⟩) dX10_wishes_10
theorem dX11_in_0 : decode cX11_in 0 = .ok (.iload_n 0, 1) := by decide +kernel
theorem dX11_in_1 : decode cX11_in 1 = .ok (.iload_n 1, 1) := by decide +kernel
theorem dX11_in_2 : decode cX11_in 2 = .ok (.if_icmp .lt 12, 3) := by decide +kernel
theorem dX11_in_5 : decode cX11_in 5 = .ok (.iload_n 0, 1) := by decide +kernel
theorem dX11_in_6 : decode cX11_in 6 = .ok (.iload_n 2, 1) := by decide +kernel
theorem dX11_in_7 : decode cX11_in 7 = .ok (.if_icmp .gt 7, 3) := by decide +kernel
theorem dX11_in_10 : decode cX11_in 10 = .ok (.iconst 1, 1) := by decide +kernel
theorem dX11_in_11 : decode cX11_in 11 = .ok (.goto 4, 3) := by decide +kernel
theorem dX11_in_14 : decode cX11_in 14 = .ok (.iconst 0, 1) := by decide +kernel
theorem dX11_in_15 : decode cX11_in 15 = .ok (.ireturn, 1) := by decide +kernel
noncomputable def f_X11_in_J14  (μ : Mm) : Option Int32 :=
  some (0 : Int32)
noncomputable def f_X11_in (l0 : Int32) (l1 : Int32) (l2 : Int32) (μ : Mm) : Option Int32 :=
  if l0 < l1 then f_X11_in_J14 μ else if l2 < l0 then f_X11_in_J14 μ else some (1 : Int32)
abbrev Rn_X11_in (G : Gv) (Q : Option Value → Mm → Prop) (pc : Nat) (lv : List (Nat × Value)) (st : List Value) (μ : Mm) : Prop := Rn G RX11 cX11_in 3 (some .boolean) "in" (rmd 0 0 0) (Zm G 0 0 Q) 0 0 pc lv st μ
set_option maxRecDepth 100000 in
set_option maxHeartbeats 4000000 in
theorem m_X11_in {G : Gv} (l0 : Int32) (l1 : Int32) (l2 : Int32) (μ : Mm) {r : Int32} (hx : f_X11_in l0 l1 l2 μ = some r) : Mt G yX11_in cX11_in 3 (some .boolean) 0 0 0 [.int l0, .int l1, .int l2] μ (fun v μ' => v = some (.int r) ∧ μ' = μ) := by
  refine Mt.of (by decide) (Nat.le_of_ble_eq_true rfl) ?_
  show Rn_X11_in G (fun v μ' => v = some (.int r) ∧ μ' = μ) 0 [(0, .int l0), (1, .int l1), (2, .int l2)] [] μ
  have h : Sat (f_X11_in l0 l1 l2 μ) (fun x => x = r) := ⟨_, hx, rfl⟩
  have J14 : Sat (f_X11_in_J14 μ) (fun x => x = r) → Rn_X11_in G (fun v μ' => v = some (.int r) ∧ μ' = μ) 14 [] [] μ := by
    intro  h
    refine r_iconst (v := 0) dX11_in_14 (by decide) ?_
    exact r_zreturn rfl (by decide) (by rw [← Sat_eq h]; exact ⟨rfl, rfl⟩) dX11_in_15
  refine r_iload_n dX11_in_0 0 rfl ?_
  refine r_iload_n dX11_in_1 1 rfl ?_
  refine r_icmp_lt 14 dX11_in_2 (by decide) (fun c2 => ?_) (fun c2 => ?_)
  · have h := Sat_pos c2 h
    exact r_sub [] rfl (J14  h)
  · have h := Sat_neg c2 h
    refine r_iload_n dX11_in_5 0 rfl ?_
    refine r_iload_n dX11_in_6 2 rfl ?_
    refine r_icmp_gt 14 dX11_in_7 (by decide) (fun c7 => ?_) (fun c7 => ?_)
    · have h := Sat_pos c7 h
      exact r_sub [] rfl (J14  h)
    · have h := Sat_neg c7 h
      refine r_iconst (v := 1) dX11_in_10 (by decide) ?_
      refine r_goto 15 dX11_in_11 (by decide) ?_
      exact r_zreturn rfl (by decide) (by rw [← Sat_eq h]; exact ⟨rfl, rfl⟩) dX11_in_15
theorem dX11_isDay_0 : decode cX11_isDay 0 = .ok (.iload_n 0, 1) := by decide +kernel
theorem dX11_isDay_1 : decode cX11_isDay 1 = .ok (.iconst 0, 1) := by decide +kernel
theorem dX11_isDay_2 : decode cX11_isDay 2 = .ok (.bipush 27, 2) := by decide +kernel
theorem dX11_isDay_4 : decode cX11_isDay 4 = .ok (.invokestatic 217, 3) := by decide +kernel
theorem dX11_isDay_7 : decode cX11_isDay 7 = .ok (.ireturn, 1) := by decide +kernel
noncomputable def f_X11_isDay (l0 : Int32) (μ : Mm) : Option Int32 :=
  (f_X11_in l0 (0 : Int32) (27 : Int32) μ).bind fun x4 => if x4 = 0 ∨ x4 = 1 then some x4 else none
abbrev Rn_X11_isDay (G : Gv) (Q : Option Value → Mm → Prop) (pc : Nat) (lv : List (Nat × Value)) (st : List Value) (μ : Mm) : Prop := Rn G RX11 cX11_isDay 1 (some .boolean) "isDay" (rmd 1 0 0) (Zm G 0 0 Q) 0 0 pc lv st μ
set_option maxRecDepth 100000 in
set_option maxHeartbeats 4000000 in
theorem m_X11_isDay {G : Gv} (l0 : Int32) (μ : Mm) {r : Int32} (hx : f_X11_isDay l0 μ = some r) : Mt G yX11_isDay cX11_isDay 1 (some .boolean) 1 0 0 [.int l0] μ (fun v μ' => v = some (.int r) ∧ μ' = μ) := by
  refine Mt.of (by decide) (Nat.le_of_ble_eq_true rfl) ?_
  show Rn_X11_isDay G (fun v μ' => v = some (.int r) ∧ μ' = μ) 0 [(0, .int l0)] [] μ
  have h : Sat (f_X11_isDay l0 μ) (fun x => x = r) := ⟨_, hx, rfl⟩
  refine r_iload_n dX11_isDay_0 0 rfl ?_
  refine r_iconst (v := 0) dX11_isDay_1 (by decide) ?_
  refine r_bipush (v := 27) dX11_isDay_2 (by decide) ?_
  obtain ⟨x4, e4, h⟩ := Sat_bind h
  refine r_cS [.int l0, .int (0 : Int32), .int (27 : Int32)] [] (m_X11_in l0 (0 : Int32) (27 : Int32) μ e4) ck_X11_in lk_X11_217 st_X11_in rfl rfl (Nat.le_of_ble_eq_true rfl) ⟨by decide, by decide⟩ ⟨Nat.zero_le _, Nat.zero_le _⟩ dX11_isDay_4 ?_
  obtain ⟨hz, h⟩ := Sat_ifp h
  exact r_zreturn rfl hz (by rw [← Sat_eq h]; exact ⟨rfl, rfl⟩) dX11_isDay_7
theorem dX11_isFact_0 : decode cX11_isFact 0 = .ok (.iload_n 1, 1) := by decide +kernel
theorem dX11_isFact_1 : decode cX11_isFact 1 = .ok (.iconst 0, 1) := by decide +kernel
theorem dX11_isFact_2 : decode cX11_isFact 2 = .ok (.aload_n 0, 1) := by decide +kernel
theorem dX11_isFact_3 : decode cX11_isFact 3 = .ok (.getfield 17, 3) := by decide +kernel
theorem dX11_isFact_6 : decode cX11_isFact 6 = .ok (.iconst 1, 1) := by decide +kernel
theorem dX11_isFact_7 : decode cX11_isFact 7 = .ok (.iaload, 1) := by decide +kernel
theorem dX11_isFact_8 : decode cX11_isFact 8 = .ok (.iconst 1, 1) := by decide +kernel
theorem dX11_isFact_9 : decode cX11_isFact 9 = .ok (.isub, 1) := by decide +kernel
theorem dX11_isFact_10 : decode cX11_isFact 10 = .ok (.invokestatic 217, 3) := by decide +kernel
theorem dX11_isFact_13 : decode cX11_isFact 13 = .ok (.ireturn, 1) := by decide +kernel
noncomputable def f_X11_isFact (a0 : Nat) (l1 : Int32) (μ : Mm) : Option Int32 :=
  if (mm_K μ a0).1 = 12 then (gf_P 12 12 a0 μ).bind fun x3 => (ga_I x3 (1 : Int32) μ).bind fun x7 => (f_X11_in l1 (0 : Int32) (x7 - (1 : Int32)) μ).bind fun x10 => if x10 = 0 ∨ x10 = 1 then some x10 else none else none
abbrev Rn_X11_isFact (G : Gv) (Q : Option Value → Mm → Prop) (pc : Nat) (lv : List (Nat × Value)) (st : List Value) (μ : Mm) : Prop := Rn G RX11 cX11_isFact 2 (some .boolean) "isFact" (rmd 1 0 0) (Zm G 0 0 Q) 0 0 pc lv st μ
set_option maxRecDepth 100000 in
set_option maxHeartbeats 4000000 in
theorem m_X11_isFact {G : Gv} (a0 : Nat) (l1 : Int32) (μ : Mm) {r : Int32} (hx : f_X11_isFact a0 l1 μ = some r) : Mt G yX11_isFact cX11_isFact 2 (some .boolean) 1 0 0 [.ref a0, .int l1] μ (fun v μ' => v = some (.int r) ∧ μ' = μ) := by
  refine Mt.of (by decide) (Nat.le_of_ble_eq_true rfl) ?_
  show Rn_X11_isFact G (fun v μ' => v = some (.int r) ∧ μ' = μ) 0 [(0, .ref a0), (1, .int l1)] [] μ
  obtain ⟨_, h⟩ := Sat_ifp (show Sat (f_X11_isFact a0 l1 μ) (fun x => x = r) from ⟨_, hx, rfl⟩)
  refine r_iload_n dX11_isFact_0 1 rfl ?_
  refine r_iconst (v := 0) dX11_isFact_1 (by decide) ?_
  refine r_aload_n dX11_isFact_2 0 rfl ?_
  obtain ⟨x3, e3, h⟩ := Sat_bind h
  refine r_getP fk_X11_17 rfl e3 dX11_isFact_3 ?_
  refine r_iconst (v := 1) dX11_isFact_6 (by decide) ?_
  obtain ⟨x7, e7, h⟩ := Sat_bind h
  refine r_iaload e7 dX11_isFact_7 ?_
  refine r_iconst (v := 1) dX11_isFact_8 (by decide) ?_
  refine r_isub dX11_isFact_9 ?_
  obtain ⟨x10, e10, h⟩ := Sat_bind h
  refine r_cS [.int l1, .int (0 : Int32), .int (x7 - (1 : Int32))] [] (m_X11_in l1 (0 : Int32) (x7 - (1 : Int32)) μ e10) ck_X11_in lk_X11_217 st_X11_in rfl rfl (Nat.le_of_ble_eq_true rfl) ⟨by decide, by decide⟩ ⟨Nat.zero_le _, Nat.zero_le _⟩ dX11_isFact_10 ?_
  obtain ⟨hz, h⟩ := Sat_ifp h
  exact r_zreturn rfl hz (by rw [← Sat_eq h]; exact ⟨rfl, rfl⟩) dX11_isFact_13
theorem dX11_isPerson_0 : decode cX11_isPerson 0 = .ok (.iload_n 1, 1) := by decide +kernel
theorem dX11_isPerson_1 : decode cX11_isPerson 1 = .ok (.iconst 0, 1) := by decide +kernel
theorem dX11_isPerson_2 : decode cX11_isPerson 2 = .ok (.aload_n 0, 1) := by decide +kernel
theorem dX11_isPerson_3 : decode cX11_isPerson 3 = .ok (.getfield 17, 3) := by decide +kernel
theorem dX11_isPerson_6 : decode cX11_isPerson 6 = .ok (.iconst 0, 1) := by decide +kernel
theorem dX11_isPerson_7 : decode cX11_isPerson 7 = .ok (.iaload, 1) := by decide +kernel
theorem dX11_isPerson_8 : decode cX11_isPerson 8 = .ok (.iconst 1, 1) := by decide +kernel
theorem dX11_isPerson_9 : decode cX11_isPerson 9 = .ok (.isub, 1) := by decide +kernel
theorem dX11_isPerson_10 : decode cX11_isPerson 10 = .ok (.invokestatic 217, 3) := by decide +kernel
theorem dX11_isPerson_13 : decode cX11_isPerson 13 = .ok (.ireturn, 1) := by decide +kernel
noncomputable def f_X11_isPerson (a0 : Nat) (l1 : Int32) (μ : Mm) : Option Int32 :=
  if (mm_K μ a0).1 = 12 then (gf_P 12 12 a0 μ).bind fun x3 => (ga_I x3 (0 : Int32) μ).bind fun x7 => (f_X11_in l1 (0 : Int32) (x7 - (1 : Int32)) μ).bind fun x10 => if x10 = 0 ∨ x10 = 1 then some x10 else none else none
abbrev Rn_X11_isPerson (G : Gv) (Q : Option Value → Mm → Prop) (pc : Nat) (lv : List (Nat × Value)) (st : List Value) (μ : Mm) : Prop := Rn G RX11 cX11_isPerson 2 (some .boolean) "isPerson" (rmd 1 0 0) (Zm G 0 0 Q) 0 0 pc lv st μ
set_option maxRecDepth 100000 in
set_option maxHeartbeats 4000000 in
theorem m_X11_isPerson {G : Gv} (a0 : Nat) (l1 : Int32) (μ : Mm) {r : Int32} (hx : f_X11_isPerson a0 l1 μ = some r) : Mt G yX11_isPerson cX11_isPerson 2 (some .boolean) 1 0 0 [.ref a0, .int l1] μ (fun v μ' => v = some (.int r) ∧ μ' = μ) := by
  refine Mt.of (by decide) (Nat.le_of_ble_eq_true rfl) ?_
  show Rn_X11_isPerson G (fun v μ' => v = some (.int r) ∧ μ' = μ) 0 [(0, .ref a0), (1, .int l1)] [] μ
  obtain ⟨_, h⟩ := Sat_ifp (show Sat (f_X11_isPerson a0 l1 μ) (fun x => x = r) from ⟨_, hx, rfl⟩)
  refine r_iload_n dX11_isPerson_0 1 rfl ?_
  refine r_iconst (v := 0) dX11_isPerson_1 (by decide) ?_
  refine r_aload_n dX11_isPerson_2 0 rfl ?_
  obtain ⟨x3, e3, h⟩ := Sat_bind h
  refine r_getP fk_X11_17 rfl e3 dX11_isPerson_3 ?_
  refine r_iconst (v := 0) dX11_isPerson_6 (by decide) ?_
  obtain ⟨x7, e7, h⟩ := Sat_bind h
  refine r_iaload e7 dX11_isPerson_7 ?_
  refine r_iconst (v := 1) dX11_isPerson_8 (by decide) ?_
  refine r_isub dX11_isPerson_9 ?_
  obtain ⟨x10, e10, h⟩ := Sat_bind h
  refine r_cS [.int l1, .int (0 : Int32), .int (x7 - (1 : Int32))] [] (m_X11_in l1 (0 : Int32) (x7 - (1 : Int32)) μ e10) ck_X11_in lk_X11_217 st_X11_in rfl rfl (Nat.le_of_ble_eq_true rfl) ⟨by decide, by decide⟩ ⟨Nat.zero_le _, Nat.zero_le _⟩ dX11_isPerson_10 ?_
  obtain ⟨hz, h⟩ := Sat_ifp h
  exact r_zreturn rfl hz (by rw [← Sat_eq h]; exact ⟨rfl, rfl⟩) dX11_isPerson_13
theorem dX11_act_0 : decode cX11_act 0 = .ok (.iload_n 1, 1) := by decide +kernel
theorem dX11_act_1 : decode cX11_act 1 = .ok (.aload_n 0, 1) := by decide +kernel
theorem dX11_act_2 : decode cX11_act 2 = .ok (.getfield 250, 3) := by decide +kernel
theorem dX11_act_5 : decode cX11_act 5 = .ok (.sipush 999, 3) := by decide +kernel
theorem dX11_act_8 : decode cX11_act 8 = .ok (.invokestatic 217, 3) := by decide +kernel
theorem dX11_act_11 : decode cX11_act 11 = .ok (.ifCond .eq 37, 3) := by decide +kernel
theorem dX11_act_14 : decode cX11_act 14 = .ok (.iload_n 2, 1) := by decide +kernel
theorem dX11_act_15 : decode cX11_act 15 = .ok (.invokestatic 363, 3) := by decide +kernel
theorem dX11_act_18 : decode cX11_act 18 = .ok (.ifCond .eq 30, 3) := by decide +kernel
theorem dX11_act_21 : decode cX11_act 21 = .ok (.aload_n 0, 1) := by decide +kernel
theorem dX11_act_22 : decode cX11_act 22 = .ok (.iload_n 3, 1) := by decide +kernel
theorem dX11_act_23 : decode cX11_act 23 = .ok (.invokevirtual 309, 3) := by decide +kernel
theorem dX11_act_26 : decode cX11_act 26 = .ok (.ifCond .eq 22, 3) := by decide +kernel
theorem dX11_act_29 : decode cX11_act 29 = .ok (.aload_n 0, 1) := by decide +kernel
theorem dX11_act_30 : decode cX11_act 30 = .ok (.iload 4, 2) := by decide +kernel
theorem dX11_act_32 : decode cX11_act 32 = .ok (.invokevirtual 315, 3) := by decide +kernel
theorem dX11_act_35 : decode cX11_act 35 = .ok (.ifCond .eq 13, 3) := by decide +kernel
theorem dX11_act_38 : decode cX11_act 38 = .ok (.iload 5, 2) := by decide +kernel
theorem dX11_act_40 : decode cX11_act 40 = .ok (.iconst 0, 1) := by decide +kernel
theorem dX11_act_41 : decode cX11_act 41 = .ok (.iconst 1, 1) := by decide +kernel
theorem dX11_act_42 : decode cX11_act 42 = .ok (.invokestatic 217, 3) := by decide +kernel
theorem dX11_act_45 : decode cX11_act 45 = .ok (.ifCond .ne 6, 3) := by decide +kernel
theorem dX11_act_48 : decode cX11_act 48 = .ok (.bipush (-2), 2) := by decide +kernel
theorem dX11_act_50 : decode cX11_act 50 = .ok (.ireturn, 1) := by decide +kernel
theorem dX11_act_51 : decode cX11_act 51 = .ok (.aload_n 0, 1) := by decide +kernel
theorem dX11_act_52 : decode cX11_act 52 = .ok (.getfield 244, 3) := by decide +kernel
theorem dX11_act_55 : decode cX11_act 55 = .ok (.bipush 16, 2) := by decide +kernel
theorem dX11_act_57 : decode cX11_act 57 = .ok (.if_icmp .ne 6, 3) := by decide +kernel
theorem dX11_act_60 : decode cX11_act 60 = .ok (.bipush (-3), 2) := by decide +kernel
theorem dX11_act_62 : decode cX11_act 62 = .ok (.ireturn, 1) := by decide +kernel
theorem dX11_act_63 : decode cX11_act 63 = .ok (.aload_n 0, 1) := by decide +kernel
theorem dX11_act_64 : decode cX11_act 64 = .ok (.iload_n 1, 1) := by decide +kernel
theorem dX11_act_65 : decode cX11_act 65 = .ok (.putfield 250, 3) := by decide +kernel
theorem dX11_act_68 : decode cX11_act 68 = .ok (.aload_n 0, 1) := by decide +kernel
theorem dX11_act_69 : decode cX11_act 69 = .ok (.getfield 91, 3) := by decide +kernel
theorem dX11_act_72 : decode cX11_act 72 = .ok (.aload_n 0, 1) := by decide +kernel
theorem dX11_act_73 : decode cX11_act 73 = .ok (.getfield 244, 3) := by decide +kernel
theorem dX11_act_76 : decode cX11_act 76 = .ok (.iload_n 1, 1) := by decide +kernel
theorem dX11_act_77 : decode cX11_act 77 = .ok (.iastore, 1) := by decide +kernel
theorem dX11_act_78 : decode cX11_act 78 = .ok (.aload_n 0, 1) := by decide +kernel
theorem dX11_act_79 : decode cX11_act 79 = .ok (.getfield 94, 3) := by decide +kernel
theorem dX11_act_82 : decode cX11_act 82 = .ok (.aload_n 0, 1) := by decide +kernel
theorem dX11_act_83 : decode cX11_act 83 = .ok (.getfield 244, 3) := by decide +kernel
theorem dX11_act_86 : decode cX11_act 86 = .ok (.iload_n 2, 1) := by decide +kernel
theorem dX11_act_87 : decode cX11_act 87 = .ok (.iastore, 1) := by decide +kernel
theorem dX11_act_88 : decode cX11_act 88 = .ok (.aload_n 0, 1) := by decide +kernel
theorem dX11_act_89 : decode cX11_act 89 = .ok (.getfield 97, 3) := by decide +kernel
theorem dX11_act_92 : decode cX11_act 92 = .ok (.aload_n 0, 1) := by decide +kernel
theorem dX11_act_93 : decode cX11_act 93 = .ok (.getfield 244, 3) := by decide +kernel
theorem dX11_act_96 : decode cX11_act 96 = .ok (.iload_n 3, 1) := by decide +kernel
theorem dX11_act_97 : decode cX11_act 97 = .ok (.iastore, 1) := by decide +kernel
theorem dX11_act_98 : decode cX11_act 98 = .ok (.aload_n 0, 1) := by decide +kernel
theorem dX11_act_99 : decode cX11_act 99 = .ok (.getfield 100, 3) := by decide +kernel
theorem dX11_act_102 : decode cX11_act 102 = .ok (.aload_n 0, 1) := by decide +kernel
theorem dX11_act_103 : decode cX11_act 103 = .ok (.getfield 244, 3) := by decide +kernel
theorem dX11_act_106 : decode cX11_act 106 = .ok (.iload 4, 2) := by decide +kernel
theorem dX11_act_108 : decode cX11_act 108 = .ok (.iastore, 1) := by decide +kernel
theorem dX11_act_109 : decode cX11_act 109 = .ok (.aload_n 0, 1) := by decide +kernel
theorem dX11_act_110 : decode cX11_act 110 = .ok (.getfield 103, 3) := by decide +kernel
theorem dX11_act_113 : decode cX11_act 113 = .ok (.aload_n 0, 1) := by decide +kernel
theorem dX11_act_114 : decode cX11_act 114 = .ok (.getfield 244, 3) := by decide +kernel
theorem dX11_act_117 : decode cX11_act 117 = .ok (.iload 5, 2) := by decide +kernel
theorem dX11_act_119 : decode cX11_act 119 = .ok (.iastore, 1) := by decide +kernel
theorem dX11_act_120 : decode cX11_act 120 = .ok (.aload_n 0, 1) := by decide +kernel
theorem dX11_act_121 : decode cX11_act 121 = .ok (.dup, 1) := by decide +kernel
theorem dX11_act_122 : decode cX11_act 122 = .ok (.getfield 244, 3) := by decide +kernel
theorem dX11_act_125 : decode cX11_act 125 = .ok (.iconst 1, 1) := by decide +kernel
theorem dX11_act_126 : decode cX11_act 126 = .ok (.iadd, 1) := by decide +kernel
theorem dX11_act_127 : decode cX11_act 127 = .ok (.putfield 244, 3) := by decide +kernel
theorem dX11_act_130 : decode cX11_act 130 = .ok (.aload_n 0, 1) := by decide +kernel
theorem dX11_act_131 : decode cX11_act 131 = .ok (.getfield 244, 3) := by decide +kernel
theorem dX11_act_134 : decode cX11_act 134 = .ok (.iconst 1, 1) := by decide +kernel
theorem dX11_act_135 : decode cX11_act 135 = .ok (.isub, 1) := by decide +kernel
theorem dX11_act_136 : decode cX11_act 136 = .ok (.ireturn, 1) := by decide +kernel
noncomputable def f_X11_act (a0 : Nat) (l1 : Int32) (l2 : Int32) (l3 : Int32) (l4 : Int32) (l5 : Int32) (μ : Mm) : Option (Int32 × Mm) :=
  if (mm_K μ a0).1 = 12 then (gf_I 12 48 a0 μ).bind fun x2 => (f_X11_in l1 x2 (999 : Int32) μ).bind fun x8 => if x8 = 0 then some ((-2 : Int32), μ) else (f_X11_isDay l2 μ).bind fun x15 => if x15 = 0 then some ((-2 : Int32), μ) else (f_X11_isPerson a0 l3 μ).bind fun x23 => if x23 = 0 then some ((-2 : Int32), μ) else (f_X11_isFact a0 l4 μ).bind fun x32 => if x32 = 0 then some ((-2 : Int32), μ) else (f_X11_in l5 (0 : Int32) (1 : Int32) μ).bind fun x42 => if x42 = 0 then some ((-2 : Int32), μ) else (gf_I 12 46 a0 μ).bind fun x52 => if x52 = (16 : Int32) then some ((-3 : Int32), μ) else (pf_I 12 48 a0 l1 μ).bind fun μ65 => (gf_P 12 49 a0 μ65).bind fun x69 => (gf_I 12 46 a0 μ65).bind fun x73 => (pa_I x69 x73 l1 μ65).bind fun μ77 => (gf_P 12 50 a0 μ77).bind fun x79 => (gf_I 12 46 a0 μ77).bind fun x83 => (pa_I x79 x83 l2 μ77).bind fun μ87 => (gf_P 12 51 a0 μ87).bind fun x89 => (gf_I 12 46 a0 μ87).bind fun x93 => (pa_I x89 x93 l3 μ87).bind fun μ97 => (gf_P 12 52 a0 μ97).bind fun x99 => (gf_I 12 46 a0 μ97).bind fun x103 => (pa_I x99 x103 l4 μ97).bind fun μ108 => (gf_P 12 53 a0 μ108).bind fun x110 => (gf_I 12 46 a0 μ108).bind fun x114 => (pa_I x110 x114 l5 μ108).bind fun μ119 => (gf_I 12 46 a0 μ119).bind fun x122 => (pf_I 12 46 a0 (x122 + (1 : Int32)) μ119).bind fun μ127 => (gf_I 12 46 a0 μ127).bind fun x131 => some (x131 - (1 : Int32), μ127) else none
abbrev Rn_X11_act (G : Gv) (Q : Option Value → Mm → Prop) (pc : Nat) (lv : List (Nat × Value)) (st : List Value) (μ : Mm) : Prop := Rn G RX11 cX11_act 6 (some .int) "act" (rmd 2 0 0) (Zm G 0 0 Q) 0 0 pc lv st μ
set_option maxRecDepth 100000 in
set_option maxHeartbeats 4000000 in
theorem m_X11_act {G : Gv} (a0 : Nat) (l1 : Int32) (l2 : Int32) (l3 : Int32) (l4 : Int32) (l5 : Int32) (μ : Mm) {r : (Int32 × Mm)} (hx : f_X11_act a0 l1 l2 l3 l4 l5 μ = some r) : Mt G yX11_act cX11_act 6 (some .int) 2 0 0 [.ref a0, .int l1, .int l2, .int l3, .int l4, .int l5] μ (fun v μ' => v = some (.int r.1) ∧ μ' = r.2) := by
  refine Mt.of (by decide) (Nat.le_of_ble_eq_true rfl) ?_
  show Rn_X11_act G (fun v μ' => v = some (.int r.1) ∧ μ' = r.2) 0 [(0, .ref a0), (1, .int l1), (2, .int l2), (3, .int l3), (4, .int l4), (5, .int l5)] [] μ
  obtain ⟨_, h⟩ := Sat_ifp (show Sat (f_X11_act a0 l1 l2 l3 l4 l5 μ) (fun x => x = r) from ⟨_, hx, rfl⟩)
  refine r_iload_n dX11_act_0 1 rfl ?_
  refine r_aload_n dX11_act_1 0 rfl ?_
  obtain ⟨x2, e2, h⟩ := Sat_bind h
  refine r_getI fk_X11_250 rfl e2 dX11_act_2 ?_
  refine r_sipush (v := 999) dX11_act_5 (by decide) ?_
  obtain ⟨x8, e8, h⟩ := Sat_bind h
  refine r_cS [.int l1, .int x2, .int (999 : Int32)] [] (m_X11_in l1 x2 (999 : Int32) μ e8) ck_X11_in lk_X11_217 st_X11_in rfl rfl (Nat.le_of_ble_eq_true rfl) ⟨by decide, by decide⟩ ⟨Nat.zero_le _, Nat.zero_le _⟩ dX11_act_8 ?_
  refine r_if_eq 48 dX11_act_11 (by decide) (fun c11 => ?_) (fun c11 => ?_)
  · have h := Sat_pos c11 h
    refine r_bipush (v := -2) dX11_act_48 (by decide) ?_
    exact r_ireturn rfl (by rw [← Sat_eq h]; exact ⟨rfl, rfl⟩) dX11_act_50
  · have h := Sat_neg c11 h
    refine r_iload_n dX11_act_14 2 rfl ?_
    obtain ⟨x15, e15, h⟩ := Sat_bind h
    refine r_cS [.int l2] [] (m_X11_isDay l2 μ e15) ck_X11_isDay lk_X11_363 st_X11_isDay rfl rfl (Nat.le_of_ble_eq_true rfl) ⟨by decide, by decide⟩ ⟨Nat.zero_le _, Nat.zero_le _⟩ dX11_act_15 ?_
    refine r_if_eq 48 dX11_act_18 (by decide) (fun c18 => ?_) (fun c18 => ?_)
    · have h := Sat_pos c18 h
      refine r_bipush (v := -2) dX11_act_48 (by decide) ?_
      exact r_ireturn rfl (by rw [← Sat_eq h]; exact ⟨rfl, rfl⟩) dX11_act_50
    · have h := Sat_neg c18 h
      refine r_aload_n dX11_act_21 0 rfl ?_
      refine r_iload_n dX11_act_22 3 rfl ?_
      obtain ⟨x23, e23, h⟩ := Sat_bind h
      refine r_cV (t := 12) [.int l3] [] (m_X11_isPerson a0 l3 μ e23) ck_X11_isPerson lk_X11_309 in_X11_isPerson se_X11_isPerson (kd_of e23) ⟨rfl, by decide, by decide⟩ rfl rfl (Nat.le_of_ble_eq_true rfl) ⟨by decide, by decide⟩ ⟨Nat.zero_le _, Nat.zero_le _⟩ dX11_act_23 ?_
      refine r_if_eq 48 dX11_act_26 (by decide) (fun c26 => ?_) (fun c26 => ?_)
      · have h := Sat_pos c26 h
        refine r_bipush (v := -2) dX11_act_48 (by decide) ?_
        exact r_ireturn rfl (by rw [← Sat_eq h]; exact ⟨rfl, rfl⟩) dX11_act_50
      · have h := Sat_neg c26 h
        refine r_aload_n dX11_act_29 0 rfl ?_
        refine r_iload dX11_act_30 4 rfl ?_
        obtain ⟨x32, e32, h⟩ := Sat_bind h
        refine r_cV (t := 12) [.int l4] [] (m_X11_isFact a0 l4 μ e32) ck_X11_isFact lk_X11_315 in_X11_isFact se_X11_isFact (kd_of e32) ⟨rfl, by decide, by decide⟩ rfl rfl (Nat.le_of_ble_eq_true rfl) ⟨by decide, by decide⟩ ⟨Nat.zero_le _, Nat.zero_le _⟩ dX11_act_32 ?_
        refine r_if_eq 48 dX11_act_35 (by decide) (fun c35 => ?_) (fun c35 => ?_)
        · have h := Sat_pos c35 h
          refine r_bipush (v := -2) dX11_act_48 (by decide) ?_
          exact r_ireturn rfl (by rw [← Sat_eq h]; exact ⟨rfl, rfl⟩) dX11_act_50
        · have h := Sat_neg c35 h
          refine r_iload dX11_act_38 5 rfl ?_
          refine r_iconst (v := 0) dX11_act_40 (by decide) ?_
          refine r_iconst (v := 1) dX11_act_41 (by decide) ?_
          obtain ⟨x42, e42, h⟩ := Sat_bind h
          refine r_cS [.int l5, .int (0 : Int32), .int (1 : Int32)] [] (m_X11_in l5 (0 : Int32) (1 : Int32) μ e42) ck_X11_in lk_X11_217 st_X11_in rfl rfl (Nat.le_of_ble_eq_true rfl) ⟨by decide, by decide⟩ ⟨Nat.zero_le _, Nat.zero_le _⟩ dX11_act_42 ?_
          refine r_if_ne 51 dX11_act_45 (by decide) (fun c45 => ?_) (fun c45 => ?_)
          · have h := Sat_neg c45 h
            refine r_aload_n dX11_act_51 0 rfl ?_
            obtain ⟨x52, e52, h⟩ := Sat_bind h
            refine r_getI fk_X11_244 rfl e52 dX11_act_52 ?_
            refine r_bipush (v := 16) dX11_act_55 (by decide) ?_
            refine r_icmp_ne 63 dX11_act_57 (by decide) (fun c57 => ?_) (fun c57 => ?_)
            · have h := Sat_neg c57 h
              refine r_aload_n dX11_act_63 0 rfl ?_
              refine r_iload_n dX11_act_64 1 rfl ?_
              obtain ⟨μ65, e65, h⟩ := Sat_bind h
              refine r_putI fk_X11_250 rfl rfl e65 dX11_act_65 ?_
              refine r_aload_n dX11_act_68 0 rfl ?_
              obtain ⟨x69, e69, h⟩ := Sat_bind h
              refine r_getP fk_X11_91 rfl e69 dX11_act_69 ?_
              refine r_aload_n dX11_act_72 0 rfl ?_
              obtain ⟨x73, e73, h⟩ := Sat_bind h
              refine r_getI fk_X11_244 rfl e73 dX11_act_73 ?_
              refine r_iload_n dX11_act_76 1 rfl ?_
              obtain ⟨μ77, e77, h⟩ := Sat_bind h
              refine r_iastore e77 dX11_act_77 ?_
              refine r_aload_n dX11_act_78 0 rfl ?_
              obtain ⟨x79, e79, h⟩ := Sat_bind h
              refine r_getP fk_X11_94 rfl e79 dX11_act_79 ?_
              refine r_aload_n dX11_act_82 0 rfl ?_
              obtain ⟨x83, e83, h⟩ := Sat_bind h
              refine r_getI fk_X11_244 rfl e83 dX11_act_83 ?_
              refine r_iload_n dX11_act_86 2 rfl ?_
              obtain ⟨μ87, e87, h⟩ := Sat_bind h
              refine r_iastore e87 dX11_act_87 ?_
              refine r_aload_n dX11_act_88 0 rfl ?_
              obtain ⟨x89, e89, h⟩ := Sat_bind h
              refine r_getP fk_X11_97 rfl e89 dX11_act_89 ?_
              refine r_aload_n dX11_act_92 0 rfl ?_
              obtain ⟨x93, e93, h⟩ := Sat_bind h
              refine r_getI fk_X11_244 rfl e93 dX11_act_93 ?_
              refine r_iload_n dX11_act_96 3 rfl ?_
              obtain ⟨μ97, e97, h⟩ := Sat_bind h
              refine r_iastore e97 dX11_act_97 ?_
              refine r_aload_n dX11_act_98 0 rfl ?_
              obtain ⟨x99, e99, h⟩ := Sat_bind h
              refine r_getP fk_X11_100 rfl e99 dX11_act_99 ?_
              refine r_aload_n dX11_act_102 0 rfl ?_
              obtain ⟨x103, e103, h⟩ := Sat_bind h
              refine r_getI fk_X11_244 rfl e103 dX11_act_103 ?_
              refine r_iload dX11_act_106 4 rfl ?_
              obtain ⟨μ108, e108, h⟩ := Sat_bind h
              refine r_iastore e108 dX11_act_108 ?_
              refine r_aload_n dX11_act_109 0 rfl ?_
              obtain ⟨x110, e110, h⟩ := Sat_bind h
              refine r_getP fk_X11_103 rfl e110 dX11_act_110 ?_
              refine r_aload_n dX11_act_113 0 rfl ?_
              obtain ⟨x114, e114, h⟩ := Sat_bind h
              refine r_getI fk_X11_244 rfl e114 dX11_act_114 ?_
              refine r_iload dX11_act_117 5 rfl ?_
              obtain ⟨μ119, e119, h⟩ := Sat_bind h
              refine r_iastore e119 dX11_act_119 ?_
              refine r_aload_n dX11_act_120 0 rfl ?_
              refine r_dup dX11_act_121 rfl ?_
              obtain ⟨x122, e122, h⟩ := Sat_bind h
              refine r_getI fk_X11_244 rfl e122 dX11_act_122 ?_
              refine r_iconst (v := 1) dX11_act_125 (by decide) ?_
              refine r_iadd dX11_act_126 ?_
              obtain ⟨μ127, e127, h⟩ := Sat_bind h
              refine r_putI fk_X11_244 rfl rfl e127 dX11_act_127 ?_
              refine r_aload_n dX11_act_130 0 rfl ?_
              obtain ⟨x131, e131, h⟩ := Sat_bind h
              refine r_getI fk_X11_244 rfl e131 dX11_act_131 ?_
              refine r_iconst (v := 1) dX11_act_134 (by decide) ?_
              refine r_isub dX11_act_135 ?_
              exact r_ireturn rfl (by rw [← Sat_eq h]; exact ⟨rfl, rfl⟩) dX11_act_136
            · have h := Sat_pos c57 h
              refine r_bipush (v := -3) dX11_act_60 (by decide) ?_
              exact r_ireturn rfl (by rw [← Sat_eq h]; exact ⟨rfl, rfl⟩) dX11_act_62
          · have h := Sat_pos c45 h
            refine r_bipush (v := -2) dX11_act_48 (by decide) ?_
            exact r_ireturn rfl (by rw [← Sat_eq h]; exact ⟨rfl, rfl⟩) dX11_act_50
theorem dX11_areWays_0 : decode cX11_areWays 0 = .ok (.iload_n 0, 1) := by decide +kernel
theorem dX11_areWays_1 : decode cX11_areWays 1 = .ok (.iconst 0, 1) := by decide +kernel
theorem dX11_areWays_2 : decode cX11_areWays 2 = .ok (.bipush 7, 2) := by decide +kernel
theorem dX11_areWays_4 : decode cX11_areWays 4 = .ok (.invokestatic 217, 3) := by decide +kernel
theorem dX11_areWays_7 : decode cX11_areWays 7 = .ok (.ireturn, 1) := by decide +kernel
noncomputable def f_X11_areWays (l0 : Int32) (μ : Mm) : Option Int32 :=
  (f_X11_in l0 (0 : Int32) (7 : Int32) μ).bind fun x4 => if x4 = 0 ∨ x4 = 1 then some x4 else none
abbrev Rn_X11_areWays (G : Gv) (Q : Option Value → Mm → Prop) (pc : Nat) (lv : List (Nat × Value)) (st : List Value) (μ : Mm) : Prop := Rn G RX11 cX11_areWays 1 (some .boolean) "areWays" (rmd 1 0 0) (Zm G 0 0 Q) 0 0 pc lv st μ
set_option maxRecDepth 100000 in
set_option maxHeartbeats 4000000 in
theorem m_X11_areWays {G : Gv} (l0 : Int32) (μ : Mm) {r : Int32} (hx : f_X11_areWays l0 μ = some r) : Mt G yX11_areWays cX11_areWays 1 (some .boolean) 1 0 0 [.int l0] μ (fun v μ' => v = some (.int r) ∧ μ' = μ) := by
  refine Mt.of (by decide) (Nat.le_of_ble_eq_true rfl) ?_
  show Rn_X11_areWays G (fun v μ' => v = some (.int r) ∧ μ' = μ) 0 [(0, .int l0)] [] μ
  have h : Sat (f_X11_areWays l0 μ) (fun x => x = r) := ⟨_, hx, rfl⟩
  refine r_iload_n dX11_areWays_0 0 rfl ?_
  refine r_iconst (v := 0) dX11_areWays_1 (by decide) ?_
  refine r_bipush (v := 7) dX11_areWays_2 (by decide) ?_
  obtain ⟨x4, e4, h⟩ := Sat_bind h
  refine r_cS [.int l0, .int (0 : Int32), .int (7 : Int32)] [] (m_X11_in l0 (0 : Int32) (7 : Int32) μ e4) ck_X11_in lk_X11_217 st_X11_in rfl rfl (Nat.le_of_ble_eq_true rfl) ⟨by decide, by decide⟩ ⟨Nat.zero_le _, Nat.zero_le _⟩ dX11_areWays_4 ?_
  obtain ⟨hz, h⟩ := Sat_ifp h
  exact r_zreturn rfl hz (by rw [← Sat_eq h]; exact ⟨rfl, rfl⟩) dX11_areWays_7
theorem dX11_dreamtBy_0 : decode cX11_dreamtBy 0 = .ok (.lload_n 0, 1) := by decide +kernel
theorem dX11_dreamtBy_1 : decode cX11_dreamtBy 1 = .ok (.iconst 4, 1) := by decide +kernel
theorem dX11_dreamtBy_2 : decode cX11_dreamtBy 2 = .ok (.iload_n 2, 1) := by decide +kernel
theorem dX11_dreamtBy_3 : decode cX11_dreamtBy 3 = .ok (.imul, 1) := by decide +kernel
theorem dX11_dreamtBy_4 : decode cX11_dreamtBy 4 = .ok (.lshr, 1) := by decide +kernel
theorem dX11_dreamtBy_5 : decode cX11_dreamtBy 5 = .ok (.ldc2_w 318, 3) := by decide +kernel
theorem dX11_dreamtBy_8 : decode cX11_dreamtBy 8 = .ok (.land, 1) := by decide +kernel
theorem dX11_dreamtBy_9 : decode cX11_dreamtBy 9 = .ok (.l2i, 1) := by decide +kernel
theorem dX11_dreamtBy_10 : decode cX11_dreamtBy 10 = .ok (.istore_n 3, 1) := by decide +kernel
theorem dX11_dreamtBy_11 : decode cX11_dreamtBy 11 = .ok (.iload_n 3, 1) := by decide +kernel
theorem dX11_dreamtBy_12 : decode cX11_dreamtBy 12 = .ok (.bipush 15, 2) := by decide +kernel
theorem dX11_dreamtBy_14 : decode cX11_dreamtBy 14 = .ok (.if_icmp .ne 7, 3) := by decide +kernel
theorem dX11_dreamtBy_17 : decode cX11_dreamtBy 17 = .ok (.iconst (-1), 1) := by decide +kernel
theorem dX11_dreamtBy_18 : decode cX11_dreamtBy 18 = .ok (.goto 4, 3) := by decide +kernel
theorem dX11_dreamtBy_21 : decode cX11_dreamtBy 21 = .ok (.iload_n 3, 1) := by decide +kernel
theorem dX11_dreamtBy_22 : decode cX11_dreamtBy 22 = .ok (.ireturn, 1) := by decide +kernel
noncomputable def f_X11_dreamtBy (l0 : Int64) (l2 : Int32) (μ : Mm) : Option Int32 :=
  (some (((l0 >>> (((4 : Int32) * l2).toInt64 &&& 63)) &&& (15 : Int64)).toInt32)).bind fun v10 => if v10 = (15 : Int32) then some (-1 : Int32) else some v10
abbrev Rn_X11_dreamtBy (G : Gv) (Q : Option Value → Mm → Prop) (pc : Nat) (lv : List (Nat × Value)) (st : List Value) (μ : Mm) : Prop := Rn G RX11 cX11_dreamtBy 4 (some .int) "dreamtBy" (rmd 0 0 0) (Zm G 0 0 Q) 0 0 pc lv st μ
set_option maxRecDepth 100000 in
set_option maxHeartbeats 4000000 in
theorem m_X11_dreamtBy {G : Gv} (l0 : Int64) (l2 : Int32) (μ : Mm) {r : Int32} (hx : f_X11_dreamtBy l0 l2 μ = some r) : Mt G yX11_dreamtBy cX11_dreamtBy 4 (some .int) 0 0 0 [.long l0, .int l2] μ (fun v μ' => v = some (.int r) ∧ μ' = μ) := by
  refine Mt.of (by decide) (Nat.le_of_ble_eq_true rfl) ?_
  show Rn_X11_dreamtBy G (fun v μ' => v = some (.int r) ∧ μ' = μ) 0 [(0, .long l0), (2, .int l2)] [] μ
  have h : Sat (f_X11_dreamtBy l0 l2 μ) (fun x => x = r) := ⟨_, hx, rfl⟩
  refine r_lload_n dX11_dreamtBy_0 0 rfl ?_
  refine r_iconst (v := 4) dX11_dreamtBy_1 (by decide) ?_
  refine r_iload_n dX11_dreamtBy_2 1 rfl ?_
  refine r_imul dX11_dreamtBy_3 ?_
  refine r_lshr dX11_dreamtBy_4 ?_
  refine r_ldc2 (v := 15) dX11_dreamtBy_5 kc_X11_318 ?_
  refine r_land dX11_dreamtBy_8 ?_
  refine r_l2i dX11_dreamtBy_9 ?_
  obtain ⟨v10, e10, h⟩ := Sat_bind h
  refine r_topi (Option.some.inj e10) ?_
  refine r_istore_n (lv' := [(3, .int v10), (0, .long l0), (2, .int l2)]) dX11_dreamtBy_10 rfl (by decide) rfl ?_
  refine r_iload_n dX11_dreamtBy_11 0 rfl ?_
  refine r_bipush (v := 15) dX11_dreamtBy_12 (by decide) ?_
  refine r_icmp_ne 21 dX11_dreamtBy_14 (by decide) (fun c14 => ?_) (fun c14 => ?_)
  · have h := Sat_neg c14 h
    refine r_iload_n dX11_dreamtBy_21 0 rfl ?_
    exact r_ireturn rfl (by rw [← Sat_eq h]; exact ⟨rfl, rfl⟩) dX11_dreamtBy_22
  · have h := Sat_pos c14 h
    refine r_iconst (v := -1) dX11_dreamtBy_17 (by decide) ?_
    refine r_goto 22 dX11_dreamtBy_18 (by decide) ?_
    exact r_ireturn rfl (by rw [← Sat_eq h]; exact ⟨rfl, rfl⟩) dX11_dreamtBy_22
theorem dX11_isDull_0 : decode cX11_isDull 0 = .ok (.aload_n 0, 1) := by decide +kernel
theorem dX11_isDull_1 : decode cX11_isDull 1 = .ok (.getfield 337, 3) := by decide +kernel
theorem dX11_isDull_4 : decode cX11_isDull 4 = .ok (.iload_n 1, 1) := by decide +kernel
theorem dX11_isDull_5 : decode cX11_isDull 5 = .ok (.ishr, 1) := by decide +kernel
theorem dX11_isDull_6 : decode cX11_isDull 6 = .ok (.iconst 1, 1) := by decide +kernel
theorem dX11_isDull_7 : decode cX11_isDull 7 = .ok (.iand, 1) := by decide +kernel
theorem dX11_isDull_8 : decode cX11_isDull 8 = .ok (.iconst 1, 1) := by decide +kernel
theorem dX11_isDull_9 : decode cX11_isDull 9 = .ok (.if_icmp .ne 5, 3) := by decide +kernel
theorem dX11_isDull_12 : decode cX11_isDull 12 = .ok (.iconst 1, 1) := by decide +kernel
theorem dX11_isDull_13 : decode cX11_isDull 13 = .ok (.ireturn, 1) := by decide +kernel
theorem dX11_isDull_14 : decode cX11_isDull 14 = .ok (.iconst 0, 1) := by decide +kernel
theorem dX11_isDull_15 : decode cX11_isDull 15 = .ok (.istore_n 3, 1) := by decide +kernel
theorem dX11_isDull_16 : decode cX11_isDull 16 = .ok (.iload_n 3, 1) := by decide +kernel
theorem dX11_isDull_17 : decode cX11_isDull 17 = .ok (.aload_n 0, 1) := by decide +kernel
theorem dX11_isDull_18 : decode cX11_isDull 18 = .ok (.getfield 17, 3) := by decide +kernel
theorem dX11_isDull_21 : decode cX11_isDull 21 = .ok (.bipush 6, 2) := by decide +kernel
theorem dX11_isDull_23 : decode cX11_isDull 23 = .ok (.iaload, 1) := by decide +kernel
theorem dX11_isDull_24 : decode cX11_isDull 24 = .ok (.if_icmp .ge 40, 3) := by decide +kernel
theorem dX11_isDull_27 : decode cX11_isDull 27 = .ok (.aload_n 0, 1) := by decide +kernel
theorem dX11_isDull_28 : decode cX11_isDull 28 = .ok (.getfield 49, 3) := by decide +kernel
theorem dX11_isDull_31 : decode cX11_isDull 31 = .ok (.iload_n 3, 1) := by decide +kernel
theorem dX11_isDull_32 : decode cX11_isDull 32 = .ok (.iaload, 1) := by decide +kernel
theorem dX11_isDull_33 : decode cX11_isDull 33 = .ok (.iload_n 1, 1) := by decide +kernel
theorem dX11_isDull_34 : decode cX11_isDull 34 = .ok (.if_icmp .ne 24, 3) := by decide +kernel
theorem dX11_isDull_37 : decode cX11_isDull 37 = .ok (.iload_n 2, 1) := by decide +kernel
theorem dX11_isDull_38 : decode cX11_isDull 38 = .ok (.aload_n 0, 1) := by decide +kernel
theorem dX11_isDull_39 : decode cX11_isDull 39 = .ok (.getfield 52, 3) := by decide +kernel
theorem dX11_isDull_42 : decode cX11_isDull 42 = .ok (.iload_n 3, 1) := by decide +kernel
theorem dX11_isDull_43 : decode cX11_isDull 43 = .ok (.iaload, 1) := by decide +kernel
theorem dX11_isDull_44 : decode cX11_isDull 44 = .ok (.aload_n 0, 1) := by decide +kernel
theorem dX11_isDull_45 : decode cX11_isDull 45 = .ok (.getfield 55, 3) := by decide +kernel
theorem dX11_isDull_48 : decode cX11_isDull 48 = .ok (.iload_n 3, 1) := by decide +kernel
theorem dX11_isDull_49 : decode cX11_isDull 49 = .ok (.iaload, 1) := by decide +kernel
theorem dX11_isDull_50 : decode cX11_isDull 50 = .ok (.invokestatic 217, 3) := by decide +kernel
theorem dX11_isDull_53 : decode cX11_isDull 53 = .ok (.ifCond .eq 5, 3) := by decide +kernel
theorem dX11_isDull_56 : decode cX11_isDull 56 = .ok (.iconst 1, 1) := by decide +kernel
theorem dX11_isDull_57 : decode cX11_isDull 57 = .ok (.ireturn, 1) := by decide +kernel
theorem dX11_isDull_58 : decode cX11_isDull 58 = .ok (.iinc 3 1, 3) := by decide +kernel
theorem dX11_isDull_61 : decode cX11_isDull 61 = .ok (.goto (-45), 3) := by decide +kernel
theorem dX11_isDull_64 : decode cX11_isDull 64 = .ok (.iconst 0, 1) := by decide +kernel
theorem dX11_isDull_65 : decode cX11_isDull 65 = .ok (.ireturn, 1) := by decide +kernel
noncomputable def f_X11_isDull_J58 (a0 : Nat) (l1 : Int32) (l2 : Int32) (l3 : Int32) (μ : Mm) : Option ((Int32) ⊕ ((Unit) ⊕ (Unit))) :=
  (some (l3 + (1 : Int32))).bind fun v58 => some (.inl v58)
noncomputable def f_X11_isDull_L16 (a0 : Nat) (l1 : Int32) (l2 : Int32) (μ : Mm) (s16 : Int32) : Option ((Int32) ⊕ ((Unit) ⊕ (Unit))) :=
  (gf_P 12 12 a0 μ).bind fun x18 => (ga_I x18 (6 : Int32) μ).bind fun x23 => if x23 ≤ s16 then some (.inr (.inr ())) else (gf_P 12 22 a0 μ).bind fun x28 => (ga_I x28 s16 μ).bind fun x32 => if x32 = l1 then (gf_P 12 23 a0 μ).bind fun x39 => (ga_I x39 s16 μ).bind fun x43 => (gf_P 12 24 a0 μ).bind fun x45 => (ga_I x45 s16 μ).bind fun x49 => (f_X11_in l2 x43 x49 μ).bind fun x50 => if x50 = 0 then f_X11_isDull_J58 a0 l1 l2 s16 μ else some (.inr (.inl ())) else f_X11_isDull_J58 a0 l1 l2 s16 μ
noncomputable def f_X11_isDull (a0 : Nat) (l1 : Int32) (l2 : Int32) (μ : Mm) : Option Int32 :=
  if (mm_K μ a0).1 = 12 then (gf_I 12 37 a0 μ).bind fun x1 => if ((x1 >>> (l1 &&& 31)) &&& (1 : Int32)) = (1 : Int32) then some (1 : Int32) else (whl (f_X11_isDull_L16 a0 l1 l2 μ) (0 : Int32)).bind (sm (fun b16 => some (1 : Int32)) (fun b16 => some (0 : Int32))) else none
abbrev Rn_X11_isDull (G : Gv) (Q : Option Value → Mm → Prop) (pc : Nat) (lv : List (Nat × Value)) (st : List Value) (μ : Mm) : Prop := Rn G RX11 cX11_isDull 4 (some .boolean) "isDull" (rmd 1 0 0) (Zm G 0 0 Q) 0 0 pc lv st μ
set_option maxRecDepth 100000 in
set_option maxHeartbeats 4000000 in
theorem m_X11_isDull {G : Gv} (a0 : Nat) (l1 : Int32) (l2 : Int32) (μ : Mm) {r : Int32} (hx : f_X11_isDull a0 l1 l2 μ = some r) : Mt G yX11_isDull cX11_isDull 4 (some .boolean) 1 0 0 [.ref a0, .int l1, .int l2] μ (fun v μ' => v = some (.int r) ∧ μ' = μ) := by
  refine Mt.of (by decide) (Nat.le_of_ble_eq_true rfl) ?_
  show Rn_X11_isDull G (fun v μ' => v = some (.int r) ∧ μ' = μ) 0 [(0, .ref a0), (1, .int l1), (2, .int l2)] [] μ
  obtain ⟨_, h⟩ := Sat_ifp (show Sat (f_X11_isDull a0 l1 l2 μ) (fun x => x = r) from ⟨_, hx, rfl⟩)
  refine r_aload_n dX11_isDull_0 0 rfl ?_
  obtain ⟨x1, e1, h⟩ := Sat_bind h
  refine r_getI fk_X11_337 rfl e1 dX11_isDull_1 ?_
  refine r_iload_n dX11_isDull_4 1 rfl ?_
  refine r_ishr dX11_isDull_5 ?_
  refine r_iconst (v := 1) dX11_isDull_6 (by decide) ?_
  refine r_iand dX11_isDull_7 ?_
  refine r_iconst (v := 1) dX11_isDull_8 (by decide) ?_
  refine r_icmp_ne 14 dX11_isDull_9 (by decide) (fun c9 => ?_) (fun c9 => ?_)
  · have h := Sat_neg c9 h
    refine r_iconst (v := 0) dX11_isDull_14 (by decide) ?_
    refine r_istore_n (lv' := [(3, .int (0 : Int32)), (0, .ref a0), (1, .int l1), (2, .int l2)]) dX11_isDull_15 rfl (by decide) rfl ?_
    refine r_sub (lv' := [(0, .ref a0), (1, .int l1), (2, .int l2), (3, .int (0 : Int32))]) [1, 2, 3, 0] rfl ?_
    refine whl_K (s0 := ((0 : Int32) : Int32)) (RR := fun (s16 : Int32) => Rn_X11_isDull G (fun v μ' => v = some (.int r) ∧ μ' = μ) 16 [(0, .ref a0), (1, .int l1), (2, .int l2), (3, .int s16)] [] μ) ?_ (Sat_bindK h)
    intro s16 K16 hI16 hX16 h
    have J58 : ∀ (l3_58 : Int32), Sat (f_X11_isDull_J58 a0 l1 l2 l3_58 μ) K16 → Rn_X11_isDull G (fun v μ' => v = some (.int r) ∧ μ' = μ) 58 [(0, .ref a0), (1, .int l1), (2, .int l2), (3, .int l3_58)] [] μ := by
      intro l3_58 h
      obtain ⟨v58, e58, h⟩ := Sat_bind h
      refine r_iinc (j := 3) (v := v58) (lv' := [(3, .int v58), (0, .ref a0), (1, .int l1), (2, .int l2)]) dX11_isDull_58 rfl (iinc_v e58 (by decide)) (by decide) rfl ?_
      refine r_goto 16 dX11_isDull_61 (by decide) ?_
      exact r_sub [1, 2, 3, 0] rfl (hI16 _ (Sat_some h))
    refine r_iload_n dX11_isDull_16 3 rfl ?_
    refine r_aload_n dX11_isDull_17 0 rfl ?_
    obtain ⟨x18, e18, h⟩ := Sat_bind h
    refine r_getP fk_X11_17 rfl e18 dX11_isDull_18 ?_
    refine r_bipush (v := 6) dX11_isDull_21 (by decide) ?_
    obtain ⟨x23, e23, h⟩ := Sat_bind h
    refine r_iaload e23 dX11_isDull_23 ?_
    refine r_icmp_ge 64 dX11_isDull_24 (by decide) (fun c24 => ?_) (fun c24 => ?_)
    · have h := Sat_pos c24 h
      have h := hX16 _ (Sat_some h)
      refine r_iconst (v := 0) dX11_isDull_64 (by decide) ?_
      exact r_zreturn rfl (by decide) (by rw [← Sat_eq h]; exact ⟨rfl, rfl⟩) dX11_isDull_65
    · have h := Sat_neg c24 h
      refine r_aload_n dX11_isDull_27 0 rfl ?_
      obtain ⟨x28, e28, h⟩ := Sat_bind h
      refine r_getP fk_X11_49 rfl e28 dX11_isDull_28 ?_
      refine r_iload_n dX11_isDull_31 3 rfl ?_
      obtain ⟨x32, e32, h⟩ := Sat_bind h
      refine r_iaload e32 dX11_isDull_32 ?_
      refine r_iload_n dX11_isDull_33 1 rfl ?_
      refine r_icmp_ne 58 dX11_isDull_34 (by decide) (fun c34 => ?_) (fun c34 => ?_)
      · have h := Sat_neg c34 h
        exact r_sub [0, 1, 2, 3] rfl (J58 s16 h)
      · have h := Sat_pos c34 h
        refine r_iload_n dX11_isDull_37 2 rfl ?_
        refine r_aload_n dX11_isDull_38 0 rfl ?_
        obtain ⟨x39, e39, h⟩ := Sat_bind h
        refine r_getP fk_X11_52 rfl e39 dX11_isDull_39 ?_
        refine r_iload_n dX11_isDull_42 3 rfl ?_
        obtain ⟨x43, e43, h⟩ := Sat_bind h
        refine r_iaload e43 dX11_isDull_43 ?_
        refine r_aload_n dX11_isDull_44 0 rfl ?_
        obtain ⟨x45, e45, h⟩ := Sat_bind h
        refine r_getP fk_X11_55 rfl e45 dX11_isDull_45 ?_
        refine r_iload_n dX11_isDull_48 3 rfl ?_
        obtain ⟨x49, e49, h⟩ := Sat_bind h
        refine r_iaload e49 dX11_isDull_49 ?_
        obtain ⟨x50, e50, h⟩ := Sat_bind h
        refine r_cS [.int l2, .int x43, .int x49] [] (m_X11_in l2 x43 x49 μ e50) ck_X11_in lk_X11_217 st_X11_in rfl rfl (Nat.le_of_ble_eq_true rfl) ⟨by decide, by decide⟩ ⟨Nat.zero_le _, Nat.zero_le _⟩ dX11_isDull_50 ?_
        refine r_if_eq 58 dX11_isDull_53 (by decide) (fun c53 => ?_) (fun c53 => ?_)
        · have h := Sat_pos c53 h
          exact r_sub [0, 1, 2, 3] rfl (J58 s16 h)
        · have h := Sat_neg c53 h
          have h := hX16 _ (Sat_some h)
          refine r_iconst (v := 1) dX11_isDull_56 (by decide) ?_
          exact r_zreturn rfl (by decide) (by rw [← Sat_eq h]; exact ⟨rfl, rfl⟩) dX11_isDull_57
  · have h := Sat_pos c9 h
    refine r_iconst (v := 1) dX11_isDull_12 (by decide) ?_
    exact r_zreturn rfl (by decide) (by rw [← Sat_eq h]; exact ⟨rfl, rfl⟩) dX11_isDull_13
theorem dX11_learns_0 : decode cX11_learns 0 = .ok (.iload_n 1, 1) := by decide +kernel
theorem dX11_learns_1 : decode cX11_learns 1 = .ok (.aload_n 0, 1) := by decide +kernel
theorem dX11_learns_2 : decode cX11_learns 2 = .ok (.getfield 340, 3) := by decide +kernel
theorem dX11_learns_5 : decode cX11_learns 5 = .ok (.if_icmp .ne 36, 3) := by decide +kernel
theorem dX11_learns_8 : decode cX11_learns 8 = .ok (.aload_n 0, 1) := by decide +kernel
theorem dX11_learns_9 : decode cX11_learns 9 = .ok (.getfield 328, 3) := by decide +kernel
theorem dX11_learns_12 : decode cX11_learns 12 = .ok (.iconst (-1), 1) := by decide +kernel
theorem dX11_learns_13 : decode cX11_learns 13 = .ok (.if_icmp .ne 28, 3) := by decide +kernel
theorem dX11_learns_16 : decode cX11_learns 16 = .ok (.iload_n 2, 1) := by decide +kernel
theorem dX11_learns_17 : decode cX11_learns 17 = .ok (.aload_n 0, 1) := by decide +kernel
theorem dX11_learns_18 : decode cX11_learns 18 = .ok (.getfield 76, 3) := by decide +kernel
theorem dX11_learns_21 : decode cX11_learns 21 = .ok (.iload_n 1, 1) := by decide +kernel
theorem dX11_learns_22 : decode cX11_learns 22 = .ok (.iaload, 1) := by decide +kernel
theorem dX11_learns_23 : decode cX11_learns 23 = .ok (.iconst (-1), 1) := by decide +kernel
theorem dX11_learns_24 : decode cX11_learns 24 = .ok (.ixor, 1) := by decide +kernel
theorem dX11_learns_25 : decode cX11_learns 25 = .ok (.iand, 1) := by decide +kernel
theorem dX11_learns_26 : decode cX11_learns 26 = .ok (.aload_n 0, 1) := by decide +kernel
theorem dX11_learns_27 : decode cX11_learns 27 = .ok (.getfield 343, 3) := by decide +kernel
theorem dX11_learns_30 : decode cX11_learns 30 = .ok (.ishr, 1) := by decide +kernel
theorem dX11_learns_31 : decode cX11_learns 31 = .ok (.iconst 1, 1) := by decide +kernel
theorem dX11_learns_32 : decode cX11_learns 32 = .ok (.iand, 1) := by decide +kernel
theorem dX11_learns_33 : decode cX11_learns 33 = .ok (.iconst 1, 1) := by decide +kernel
theorem dX11_learns_34 : decode cX11_learns 34 = .ok (.if_icmp .ne 7, 3) := by decide +kernel
theorem dX11_learns_37 : decode cX11_learns 37 = .ok (.iconst 1, 1) := by decide +kernel
theorem dX11_learns_38 : decode cX11_learns 38 = .ok (.goto 4, 3) := by decide +kernel
theorem dX11_learns_41 : decode cX11_learns 41 = .ok (.iconst 0, 1) := by decide +kernel
theorem dX11_learns_42 : decode cX11_learns 42 = .ok (.istore 6, 2) := by decide +kernel
theorem dX11_learns_44 : decode cX11_learns 44 = .ok (.aload_n 0, 1) := by decide +kernel
theorem dX11_learns_45 : decode cX11_learns 45 = .ok (.getfield 76, 3) := by decide +kernel
theorem dX11_learns_48 : decode cX11_learns 48 = .ok (.iload_n 1, 1) := by decide +kernel
theorem dX11_learns_49 : decode cX11_learns 49 = .ok (.dup2, 1) := by decide +kernel
theorem dX11_learns_50 : decode cX11_learns 50 = .ok (.iaload, 1) := by decide +kernel
theorem dX11_learns_51 : decode cX11_learns 51 = .ok (.iload_n 2, 1) := by decide +kernel
theorem dX11_learns_52 : decode cX11_learns 52 = .ok (.ior, 1) := by decide +kernel
theorem dX11_learns_53 : decode cX11_learns 53 = .ok (.iastore, 1) := by decide +kernel
theorem dX11_learns_54 : decode cX11_learns 54 = .ok (.iload 6, 2) := by decide +kernel
theorem dX11_learns_56 : decode cX11_learns 56 = .ok (.ifCond .ne 4, 3) := by decide +kernel
theorem dX11_learns_59 : decode cX11_learns 59 = .ok (.return_, 1) := by decide +kernel
theorem dX11_learns_60 : decode cX11_learns 60 = .ok (.aload_n 0, 1) := by decide +kernel
theorem dX11_learns_61 : decode cX11_learns 61 = .ok (.iload_n 3, 1) := by decide +kernel
theorem dX11_learns_62 : decode cX11_learns 62 = .ok (.putfield 328, 3) := by decide +kernel
theorem dX11_learns_65 : decode cX11_learns 65 = .ok (.aload_n 0, 1) := by decide +kernel
theorem dX11_learns_66 : decode cX11_learns 66 = .ok (.iload 4, 2) := by decide +kernel
theorem dX11_learns_68 : decode cX11_learns 68 = .ok (.putfield 331, 3) := by decide +kernel
theorem dX11_learns_71 : decode cX11_learns 71 = .ok (.aload_n 0, 1) := by decide +kernel
theorem dX11_learns_72 : decode cX11_learns 72 = .ok (.iload 5, 2) := by decide +kernel
theorem dX11_learns_74 : decode cX11_learns 74 = .ok (.putfield 334, 3) := by decide +kernel
theorem dX11_learns_77 : decode cX11_learns 77 = .ok (.return_, 1) := by decide +kernel
noncomputable def f_X11_learns_J42 (a0 : Nat) (l1 : Int32) (l2 : Int32) (l3 : Int32) (l4 : Int32) (l5 : Int32) (k0 : Int32) (μ : Mm) : Option Mm :=
  (gf_P 12 35 a0 μ).bind fun x45 => (ga_I x45 l1 μ).bind fun x50 => (pa_I x45 l1 (x50 ||| l2) μ).bind fun μ53 => if k0 = 0 then some μ53 else (pf_I 12 40 a0 l3 μ53).bind fun μ62 => (pf_I 12 41 a0 l4 μ62).bind fun μ68 => (pf_I 12 42 a0 l5 μ68).bind fun μ74 => some μ74
noncomputable def f_X11_learns_J41 (a0 : Nat) (l1 : Int32) (l2 : Int32) (l3 : Int32) (l4 : Int32) (l5 : Int32) (μ : Mm) : Option Mm :=
  f_X11_learns_J42 a0 l1 l2 l3 l4 l5 (0 : Int32) μ
noncomputable def f_X11_learns (a0 : Nat) (l1 : Int32) (l2 : Int32) (l3 : Int32) (l4 : Int32) (l5 : Int32) (μ : Mm) : Option Mm :=
  if (mm_K μ a0).1 = 12 then (gf_I 12 38 a0 μ).bind fun x2 => if l1 = x2 then (gf_I 12 40 a0 μ).bind fun x9 => if x9 = (-1 : Int32) then (gf_P 12 35 a0 μ).bind fun x18 => (ga_I x18 l1 μ).bind fun x22 => (gf_I 12 39 a0 μ).bind fun x27 => if (((l2 &&& (x22 ^^^ (-1 : Int32))) >>> (x27 &&& 31)) &&& (1 : Int32)) = (1 : Int32) then f_X11_learns_J42 a0 l1 l2 l3 l4 l5 (1 : Int32) μ else f_X11_learns_J41 a0 l1 l2 l3 l4 l5 μ else f_X11_learns_J41 a0 l1 l2 l3 l4 l5 μ else f_X11_learns_J41 a0 l1 l2 l3 l4 l5 μ else none
abbrev Rn_X11_learns (G : Gv) (Q : Option Value → Mm → Prop) (pc : Nat) (lv : List (Nat × Value)) (st : List Value) (μ : Mm) : Prop := Rn G RX11 cX11_learns 7 none "learns" (rmd 0 0 0) (Zm G 0 0 Q) 0 0 pc lv st μ
set_option maxRecDepth 100000 in
set_option maxHeartbeats 4000000 in
theorem m_X11_learns {G : Gv} (a0 : Nat) (l1 : Int32) (l2 : Int32) (l3 : Int32) (l4 : Int32) (l5 : Int32) (μ : Mm) {r : Mm} (hx : f_X11_learns a0 l1 l2 l3 l4 l5 μ = some r) : Mt G yX11_learns cX11_learns 7 none 0 0 0 [.ref a0, .int l1, .int l2, .int l3, .int l4, .int l5] μ (fun v μ' => v = none ∧ μ' = r) := by
  refine Mt.of (by decide) (Nat.le_of_ble_eq_true rfl) ?_
  show Rn_X11_learns G (fun v μ' => v = none ∧ μ' = r) 0 [(0, .ref a0), (1, .int l1), (2, .int l2), (3, .int l3), (4, .int l4), (5, .int l5)] [] μ
  obtain ⟨_, h⟩ := Sat_ifp (show Sat (f_X11_learns a0 l1 l2 l3 l4 l5 μ) (fun x => x = r) from ⟨_, hx, rfl⟩)
  have J42 : ∀ (a0_42 : Nat) (l1_42 : Int32) (l2_42 : Int32) (l3_42 : Int32) (l4_42 : Int32) (l5_42 : Int32) (k0_42 : Int32) (μ_42 : Mm), Sat (f_X11_learns_J42 a0_42 l1_42 l2_42 l3_42 l4_42 l5_42 k0_42 μ_42) (fun x => x = r) → Rn_X11_learns G (fun v μ' => v = none ∧ μ' = r) 42 [(0, .ref a0_42), (1, .int l1_42), (2, .int l2_42), (3, .int l3_42), (4, .int l4_42), (5, .int l5_42)] [.int k0_42] μ_42 := by
    intro a0_42 l1_42 l2_42 l3_42 l4_42 l5_42 k0_42 μ_42 h
    refine r_istore (lv' := [(6, .int k0_42), (0, .ref a0_42), (1, .int l1_42), (2, .int l2_42), (3, .int l3_42), (4, .int l4_42), (5, .int l5_42)]) dX11_learns_42 (by decide) rfl ?_
    refine r_aload_n dX11_learns_44 1 rfl ?_
    obtain ⟨x45, e45, h⟩ := Sat_bind h
    refine r_getP fk_X11_76 rfl e45 dX11_learns_45 ?_
    refine r_iload_n dX11_learns_48 2 rfl ?_
    refine r_dup2_11 dX11_learns_49 rfl rfl ?_
    obtain ⟨x50, e50, h⟩ := Sat_bind h
    refine r_iaload e50 dX11_learns_50 ?_
    refine r_iload_n dX11_learns_51 3 rfl ?_
    refine r_ior dX11_learns_52 ?_
    obtain ⟨μ53, e53, h⟩ := Sat_bind h
    refine r_iastore e53 dX11_learns_53 ?_
    refine r_iload dX11_learns_54 0 rfl ?_
    refine r_if_ne 60 dX11_learns_56 (by decide) (fun c56 => ?_) (fun c56 => ?_)
    · have h := Sat_neg c56 h
      refine r_aload_n dX11_learns_60 1 rfl ?_
      refine r_iload_n dX11_learns_61 4 rfl ?_
      obtain ⟨μ62, e62, h⟩ := Sat_bind h
      refine r_putI fk_X11_328 rfl rfl e62 dX11_learns_62 ?_
      refine r_aload_n dX11_learns_65 1 rfl ?_
      refine r_iload dX11_learns_66 5 rfl ?_
      obtain ⟨μ68, e68, h⟩ := Sat_bind h
      refine r_putI fk_X11_331 rfl rfl e68 dX11_learns_68 ?_
      refine r_aload_n dX11_learns_71 1 rfl ?_
      refine r_iload dX11_learns_72 6 rfl ?_
      obtain ⟨μ74, e74, h⟩ := Sat_bind h
      refine r_putI fk_X11_334 rfl rfl e74 dX11_learns_74 ?_
      exact r_vreturn rfl (by rw [← Sat_eq h]; exact ⟨rfl, rfl⟩) dX11_learns_77
    · have h := Sat_pos c56 h
      exact r_vreturn rfl (by rw [← Sat_eq h]; exact ⟨rfl, rfl⟩) dX11_learns_59
  have J41 : ∀ (a0_41 : Nat) (l1_41 : Int32) (l2_41 : Int32) (l3_41 : Int32) (l4_41 : Int32) (l5_41 : Int32) (μ_41 : Mm), Sat (f_X11_learns_J41 a0_41 l1_41 l2_41 l3_41 l4_41 l5_41 μ_41) (fun x => x = r) → Rn_X11_learns G (fun v μ' => v = none ∧ μ' = r) 41 [(0, .ref a0_41), (1, .int l1_41), (2, .int l2_41), (3, .int l3_41), (4, .int l4_41), (5, .int l5_41)] [] μ_41 := by
    intro a0_41 l1_41 l2_41 l3_41 l4_41 l5_41 μ_41 h
    refine r_iconst (v := 0) dX11_learns_41 (by decide) ?_
    exact r_sub [0, 1, 2, 3, 4, 5] rfl (J42 a0_41 l1_41 l2_41 l3_41 l4_41 l5_41 (0 : Int32) μ_41 h)
  refine r_iload_n dX11_learns_0 1 rfl ?_
  refine r_aload_n dX11_learns_1 0 rfl ?_
  obtain ⟨x2, e2, h⟩ := Sat_bind h
  refine r_getI fk_X11_340 rfl e2 dX11_learns_2 ?_
  refine r_icmp_ne 41 dX11_learns_5 (by decide) (fun c5 => ?_) (fun c5 => ?_)
  · have h := Sat_neg c5 h
    exact r_sub [0, 1, 2, 3, 4, 5] rfl (J41 a0 l1 l2 l3 l4 l5 μ h)
  · have h := Sat_pos c5 h
    refine r_aload_n dX11_learns_8 0 rfl ?_
    obtain ⟨x9, e9, h⟩ := Sat_bind h
    refine r_getI fk_X11_328 rfl e9 dX11_learns_9 ?_
    refine r_iconst (v := -1) dX11_learns_12 (by decide) ?_
    refine r_icmp_ne 41 dX11_learns_13 (by decide) (fun c13 => ?_) (fun c13 => ?_)
    · have h := Sat_neg c13 h
      exact r_sub [0, 1, 2, 3, 4, 5] rfl (J41 a0 l1 l2 l3 l4 l5 μ h)
    · have h := Sat_pos c13 h
      refine r_iload_n dX11_learns_16 2 rfl ?_
      refine r_aload_n dX11_learns_17 0 rfl ?_
      obtain ⟨x18, e18, h⟩ := Sat_bind h
      refine r_getP fk_X11_76 rfl e18 dX11_learns_18 ?_
      refine r_iload_n dX11_learns_21 1 rfl ?_
      obtain ⟨x22, e22, h⟩ := Sat_bind h
      refine r_iaload e22 dX11_learns_22 ?_
      refine r_iconst (v := -1) dX11_learns_23 (by decide) ?_
      refine r_ixor dX11_learns_24 ?_
      refine r_iand dX11_learns_25 ?_
      refine r_aload_n dX11_learns_26 0 rfl ?_
      obtain ⟨x27, e27, h⟩ := Sat_bind h
      refine r_getI fk_X11_343 rfl e27 dX11_learns_27 ?_
      refine r_ishr dX11_learns_30 ?_
      refine r_iconst (v := 1) dX11_learns_31 (by decide) ?_
      refine r_iand dX11_learns_32 ?_
      refine r_iconst (v := 1) dX11_learns_33 (by decide) ?_
      refine r_icmp_ne 41 dX11_learns_34 (by decide) (fun c34 => ?_) (fun c34 => ?_)
      · have h := Sat_neg c34 h
        exact r_sub [0, 1, 2, 3, 4, 5] rfl (J41 a0 l1 l2 l3 l4 l5 μ h)
      · have h := Sat_pos c34 h
        refine r_iconst (v := 1) dX11_learns_37 (by decide) ?_
        refine r_goto 42 dX11_learns_38 (by decide) ?_
        exact r_sub [0, 1, 2, 3, 4, 5] rfl (J42 a0 l1 l2 l3 l4 l5 (1 : Int32) μ h)
theorem dX11_byDay_0 : decode cX11_byDay 0 = .ok (.iconst 0, 1) := by decide +kernel
theorem dX11_byDay_1 : decode cX11_byDay 1 = .ok (.istore 5, 2) := by decide +kernel
theorem dX11_byDay_3 : decode cX11_byDay 3 = .ok (.iload 5, 2) := by decide +kernel
theorem dX11_byDay_5 : decode cX11_byDay 5 = .ok (.aload_n 0, 1) := by decide +kernel
theorem dX11_byDay_6 : decode cX11_byDay 6 = .ok (.getfield 17, 3) := by decide +kernel
theorem dX11_byDay_9 : decode cX11_byDay 9 = .ok (.iconst 1, 1) := by decide +kernel
theorem dX11_byDay_10 : decode cX11_byDay 10 = .ok (.iaload, 1) := by decide +kernel
theorem dX11_byDay_11 : decode cX11_byDay 11 = .ok (.if_icmp .ge 38, 3) := by decide +kernel
theorem dX11_byDay_14 : decode cX11_byDay 14 = .ok (.aload_n 0, 1) := by decide +kernel
theorem dX11_byDay_15 : decode cX11_byDay 15 = .ok (.getfield 31, 3) := by decide +kernel
theorem dX11_byDay_18 : decode cX11_byDay 18 = .ok (.iload 5, 2) := by decide +kernel
theorem dX11_byDay_20 : decode cX11_byDay 20 = .ok (.iaload, 1) := by decide +kernel
theorem dX11_byDay_21 : decode cX11_byDay 21 = .ok (.iload_n 3, 1) := by decide +kernel
theorem dX11_byDay_22 : decode cX11_byDay 22 = .ok (.if_icmp .ne 21, 3) := by decide +kernel
theorem dX11_byDay_25 : decode cX11_byDay 25 = .ok (.aload_n 0, 1) := by decide +kernel
theorem dX11_byDay_26 : decode cX11_byDay 26 = .ok (.aload_n 0, 1) := by decide +kernel
theorem dX11_byDay_27 : decode cX11_byDay 27 = .ok (.getfield 28, 3) := by decide +kernel
theorem dX11_byDay_30 : decode cX11_byDay 30 = .ok (.iload 5, 2) := by decide +kernel
theorem dX11_byDay_32 : decode cX11_byDay 32 = .ok (.iaload, 1) := by decide +kernel
theorem dX11_byDay_33 : decode cX11_byDay 33 = .ok (.iconst 1, 1) := by decide +kernel
theorem dX11_byDay_34 : decode cX11_byDay 34 = .ok (.iload 5, 2) := by decide +kernel
theorem dX11_byDay_36 : decode cX11_byDay 36 = .ok (.ishl, 1) := by decide +kernel
theorem dX11_byDay_37 : decode cX11_byDay 37 = .ok (.iload_n 3, 1) := by decide +kernel
theorem dX11_byDay_38 : decode cX11_byDay 38 = .ok (.iconst 0, 1) := by decide +kernel
theorem dX11_byDay_39 : decode cX11_byDay 39 = .ok (.iconst (-1), 1) := by decide +kernel
theorem dX11_byDay_40 : decode cX11_byDay 40 = .ok (.invokevirtual 346, 3) := by decide +kernel
theorem dX11_byDay_43 : decode cX11_byDay 43 = .ok (.iinc 5 1, 3) := by decide +kernel
theorem dX11_byDay_46 : decode cX11_byDay 46 = .ok (.goto (-43), 3) := by decide +kernel
theorem dX11_byDay_49 : decode cX11_byDay 49 = .ok (.iconst 0, 1) := by decide +kernel
theorem dX11_byDay_50 : decode cX11_byDay 50 = .ok (.istore 5, 2) := by decide +kernel
theorem dX11_byDay_52 : decode cX11_byDay 52 = .ok (.iload 5, 2) := by decide +kernel
theorem dX11_byDay_54 : decode cX11_byDay 54 = .ok (.aload_n 0, 1) := by decide +kernel
theorem dX11_byDay_55 : decode cX11_byDay 55 = .ok (.getfield 17, 3) := by decide +kernel
theorem dX11_byDay_58 : decode cX11_byDay 58 = .ok (.iconst 3, 1) := by decide +kernel
theorem dX11_byDay_59 : decode cX11_byDay 59 = .ok (.iaload, 1) := by decide +kernel
theorem dX11_byDay_60 : decode cX11_byDay 60 = .ok (.if_icmp .ge 88, 3) := by decide +kernel
theorem dX11_byDay_63 : decode cX11_byDay 63 = .ok (.iload 4, 2) := by decide +kernel
theorem dX11_byDay_65 : decode cX11_byDay 65 = .ok (.iconst 4, 1) := by decide +kernel
theorem dX11_byDay_66 : decode cX11_byDay 66 = .ok (.iand, 1) := by decide +kernel
theorem dX11_byDay_67 : decode cX11_byDay 67 = .ok (.ifCond .le 81, 3) := by decide +kernel
theorem dX11_byDay_70 : decode cX11_byDay 70 = .ok (.lload_n 1, 1) := by decide +kernel
theorem dX11_byDay_71 : decode cX11_byDay 71 = .ok (.aload_n 0, 1) := by decide +kernel
theorem dX11_byDay_72 : decode cX11_byDay 72 = .ok (.getfield 43, 3) := by decide +kernel
theorem dX11_byDay_75 : decode cX11_byDay 75 = .ok (.iload 5, 2) := by decide +kernel
theorem dX11_byDay_77 : decode cX11_byDay 77 = .ok (.iaload, 1) := by decide +kernel
theorem dX11_byDay_78 : decode cX11_byDay 78 = .ok (.invokestatic 320, 3) := by decide +kernel
theorem dX11_byDay_81 : decode cX11_byDay 81 = .ok (.istore 6, 2) := by decide +kernel
theorem dX11_byDay_83 : decode cX11_byDay 83 = .ok (.aload_n 0, 1) := by decide +kernel
theorem dX11_byDay_84 : decode cX11_byDay 84 = .ok (.getfield 46, 3) := by decide +kernel
theorem dX11_byDay_87 : decode cX11_byDay 87 = .ok (.iload 5, 2) := by decide +kernel
theorem dX11_byDay_89 : decode cX11_byDay 89 = .ok (.iaload, 1) := by decide +kernel
theorem dX11_byDay_90 : decode cX11_byDay 90 = .ok (.iload_n 3, 1) := by decide +kernel
theorem dX11_byDay_91 : decode cX11_byDay 91 = .ok (.if_icmp .ne 51, 3) := by decide +kernel
theorem dX11_byDay_94 : decode cX11_byDay 94 = .ok (.iload 6, 2) := by decide +kernel
theorem dX11_byDay_96 : decode cX11_byDay 96 = .ok (.iconst (-1), 1) := by decide +kernel
theorem dX11_byDay_97 : decode cX11_byDay 97 = .ok (.if_icmp .eq 45, 3) := by decide +kernel
theorem dX11_byDay_100 : decode cX11_byDay 100 = .ok (.aload_n 0, 1) := by decide +kernel
theorem dX11_byDay_101 : decode cX11_byDay 101 = .ok (.iload 6, 2) := by decide +kernel
theorem dX11_byDay_103 : decode cX11_byDay 103 = .ok (.iload_n 3, 1) := by decide +kernel
theorem dX11_byDay_104 : decode cX11_byDay 104 = .ok (.invokevirtual 350, 3) := by decide +kernel
theorem dX11_byDay_107 : decode cX11_byDay 107 = .ok (.ifCond .ne 35, 3) := by decide +kernel
theorem dX11_byDay_110 : decode cX11_byDay 110 = .ok (.aload_n 0, 1) := by decide +kernel
theorem dX11_byDay_111 : decode cX11_byDay 111 = .ok (.aload_n 0, 1) := by decide +kernel
theorem dX11_byDay_112 : decode cX11_byDay 112 = .ok (.getfield 43, 3) := by decide +kernel
theorem dX11_byDay_115 : decode cX11_byDay 115 = .ok (.iload 5, 2) := by decide +kernel
theorem dX11_byDay_117 : decode cX11_byDay 117 = .ok (.iaload, 1) := by decide +kernel
theorem dX11_byDay_118 : decode cX11_byDay 118 = .ok (.aload_n 0, 1) := by decide +kernel
theorem dX11_byDay_119 : decode cX11_byDay 119 = .ok (.getfield 76, 3) := by decide +kernel
theorem dX11_byDay_122 : decode cX11_byDay 122 = .ok (.iload 6, 2) := by decide +kernel
theorem dX11_byDay_124 : decode cX11_byDay 124 = .ok (.iaload, 1) := by decide +kernel
theorem dX11_byDay_125 : decode cX11_byDay 125 = .ok (.aload_n 0, 1) := by decide +kernel
theorem dX11_byDay_126 : decode cX11_byDay 126 = .ok (.getfield 17, 3) := by decide +kernel
theorem dX11_byDay_129 : decode cX11_byDay 129 = .ok (.bipush 8, 2) := by decide +kernel
theorem dX11_byDay_131 : decode cX11_byDay 131 = .ok (.iaload, 1) := by decide +kernel
theorem dX11_byDay_132 : decode cX11_byDay 132 = .ok (.iconst (-1), 1) := by decide +kernel
theorem dX11_byDay_133 : decode cX11_byDay 133 = .ok (.ixor, 1) := by decide +kernel
theorem dX11_byDay_134 : decode cX11_byDay 134 = .ok (.iand, 1) := by decide +kernel
theorem dX11_byDay_135 : decode cX11_byDay 135 = .ok (.iload_n 3, 1) := by decide +kernel
theorem dX11_byDay_136 : decode cX11_byDay 136 = .ok (.iconst 1, 1) := by decide +kernel
theorem dX11_byDay_137 : decode cX11_byDay 137 = .ok (.iload 6, 2) := by decide +kernel
theorem dX11_byDay_139 : decode cX11_byDay 139 = .ok (.invokevirtual 346, 3) := by decide +kernel
theorem dX11_byDay_142 : decode cX11_byDay 142 = .ok (.iinc 5 1, 3) := by decide +kernel
theorem dX11_byDay_145 : decode cX11_byDay 145 = .ok (.goto (-93), 3) := by decide +kernel
theorem dX11_byDay_148 : decode cX11_byDay 148 = .ok (.iconst 0, 1) := by decide +kernel
theorem dX11_byDay_149 : decode cX11_byDay 149 = .ok (.istore 5, 2) := by decide +kernel
theorem dX11_byDay_151 : decode cX11_byDay 151 = .ok (.iload 5, 2) := by decide +kernel
theorem dX11_byDay_153 : decode cX11_byDay 153 = .ok (.aload_n 0, 1) := by decide +kernel
theorem dX11_byDay_154 : decode cX11_byDay 154 = .ok (.getfield 17, 3) := by decide +kernel
theorem dX11_byDay_157 : decode cX11_byDay 157 = .ok (.iconst 2, 1) := by decide +kernel
theorem dX11_byDay_158 : decode cX11_byDay 158 = .ok (.iaload, 1) := by decide +kernel
theorem dX11_byDay_159 : decode cX11_byDay 159 = .ok (.if_icmp .ge 99, 3) := by decide +kernel
theorem dX11_byDay_162 : decode cX11_byDay 162 = .ok (.iload 4, 2) := by decide +kernel
theorem dX11_byDay_164 : decode cX11_byDay 164 = .ok (.iconst 2, 1) := by decide +kernel
theorem dX11_byDay_165 : decode cX11_byDay 165 = .ok (.iand, 1) := by decide +kernel
theorem dX11_byDay_166 : decode cX11_byDay 166 = .ok (.ifCond .le 92, 3) := by decide +kernel
theorem dX11_byDay_169 : decode cX11_byDay 169 = .ok (.iload_n 3, 1) := by decide +kernel
theorem dX11_byDay_170 : decode cX11_byDay 170 = .ok (.aload_n 0, 1) := by decide +kernel
theorem dX11_byDay_171 : decode cX11_byDay 171 = .ok (.getfield 40, 3) := by decide +kernel
theorem dX11_byDay_174 : decode cX11_byDay 174 = .ok (.iload 5, 2) := by decide +kernel
theorem dX11_byDay_176 : decode cX11_byDay 176 = .ok (.iaload, 1) := by decide +kernel
theorem dX11_byDay_177 : decode cX11_byDay 177 = .ok (.irem, 1) := by decide +kernel
theorem dX11_byDay_178 : decode cX11_byDay 178 = .ok (.ifCond .eq 6, 3) := by decide +kernel
theorem dX11_byDay_181 : decode cX11_byDay 181 = .ok (.goto 71, 3) := by decide +kernel
theorem dX11_byDay_184 : decode cX11_byDay 184 = .ok (.aload_n 0, 1) := by decide +kernel
theorem dX11_byDay_185 : decode cX11_byDay 185 = .ok (.getfield 34, 3) := by decide +kernel
theorem dX11_byDay_188 : decode cX11_byDay 188 = .ok (.iload 5, 2) := by decide +kernel
theorem dX11_byDay_190 : decode cX11_byDay 190 = .ok (.iaload, 1) := by decide +kernel
theorem dX11_byDay_191 : decode cX11_byDay 191 = .ok (.istore 6, 2) := by decide +kernel
theorem dX11_byDay_193 : decode cX11_byDay 193 = .ok (.aload_n 0, 1) := by decide +kernel
theorem dX11_byDay_194 : decode cX11_byDay 194 = .ok (.getfield 37, 3) := by decide +kernel
theorem dX11_byDay_197 : decode cX11_byDay 197 = .ok (.iload 5, 2) := by decide +kernel
theorem dX11_byDay_199 : decode cX11_byDay 199 = .ok (.iaload, 1) := by decide +kernel
theorem dX11_byDay_200 : decode cX11_byDay 200 = .ok (.istore 7, 2) := by decide +kernel
theorem dX11_byDay_202 : decode cX11_byDay 202 = .ok (.aload_n 0, 1) := by decide +kernel
theorem dX11_byDay_203 : decode cX11_byDay 203 = .ok (.getfield 76, 3) := by decide +kernel
theorem dX11_byDay_206 : decode cX11_byDay 206 = .ok (.iload 6, 2) := by decide +kernel
theorem dX11_byDay_208 : decode cX11_byDay 208 = .ok (.iaload, 1) := by decide +kernel
theorem dX11_byDay_209 : decode cX11_byDay 209 = .ok (.aload_n 0, 1) := by decide +kernel
theorem dX11_byDay_210 : decode cX11_byDay 210 = .ok (.getfield 76, 3) := by decide +kernel
theorem dX11_byDay_213 : decode cX11_byDay 213 = .ok (.iload 7, 2) := by decide +kernel
theorem dX11_byDay_215 : decode cX11_byDay 215 = .ok (.iaload, 1) := by decide +kernel
theorem dX11_byDay_216 : decode cX11_byDay 216 = .ok (.ior, 1) := by decide +kernel
theorem dX11_byDay_217 : decode cX11_byDay 217 = .ok (.aload_n 0, 1) := by decide +kernel
theorem dX11_byDay_218 : decode cX11_byDay 218 = .ok (.getfield 17, 3) := by decide +kernel
theorem dX11_byDay_221 : decode cX11_byDay 221 = .ok (.iconst 4, 1) := by decide +kernel
theorem dX11_byDay_222 : decode cX11_byDay 222 = .ok (.iaload, 1) := by decide +kernel
theorem dX11_byDay_223 : decode cX11_byDay 223 = .ok (.iconst (-1), 1) := by decide +kernel
theorem dX11_byDay_224 : decode cX11_byDay 224 = .ok (.ixor, 1) := by decide +kernel
theorem dX11_byDay_225 : decode cX11_byDay 225 = .ok (.iand, 1) := by decide +kernel
theorem dX11_byDay_226 : decode cX11_byDay 226 = .ok (.istore 8, 2) := by decide +kernel
theorem dX11_byDay_228 : decode cX11_byDay 228 = .ok (.aload_n 0, 1) := by decide +kernel
theorem dX11_byDay_229 : decode cX11_byDay 229 = .ok (.iload 6, 2) := by decide +kernel
theorem dX11_byDay_231 : decode cX11_byDay 231 = .ok (.iload 8, 2) := by decide +kernel
theorem dX11_byDay_233 : decode cX11_byDay 233 = .ok (.iload_n 3, 1) := by decide +kernel
theorem dX11_byDay_234 : decode cX11_byDay 234 = .ok (.iconst 2, 1) := by decide +kernel
theorem dX11_byDay_235 : decode cX11_byDay 235 = .ok (.iload 7, 2) := by decide +kernel
theorem dX11_byDay_237 : decode cX11_byDay 237 = .ok (.invokevirtual 346, 3) := by decide +kernel
theorem dX11_byDay_240 : decode cX11_byDay 240 = .ok (.aload_n 0, 1) := by decide +kernel
theorem dX11_byDay_241 : decode cX11_byDay 241 = .ok (.iload 7, 2) := by decide +kernel
theorem dX11_byDay_243 : decode cX11_byDay 243 = .ok (.iload 8, 2) := by decide +kernel
theorem dX11_byDay_245 : decode cX11_byDay 245 = .ok (.iload_n 3, 1) := by decide +kernel
theorem dX11_byDay_246 : decode cX11_byDay 246 = .ok (.iconst 2, 1) := by decide +kernel
theorem dX11_byDay_247 : decode cX11_byDay 247 = .ok (.iload 6, 2) := by decide +kernel
theorem dX11_byDay_249 : decode cX11_byDay 249 = .ok (.invokevirtual 346, 3) := by decide +kernel
theorem dX11_byDay_252 : decode cX11_byDay 252 = .ok (.iinc 5 1, 3) := by decide +kernel
theorem dX11_byDay_255 : decode cX11_byDay 255 = .ok (.goto (-104), 3) := by decide +kernel
theorem dX11_byDay_258 : decode cX11_byDay 258 = .ok (.return_, 1) := by decide +kernel
noncomputable def f_X11_byDay_J252 (a0 : Nat) (l3 : Int32) (l4 : Int32) (l5 : Int32) (μ : Mm) : Option ((Int32 × Mm) ⊕ (Mm)) :=
  (some (l5 + (1 : Int32))).bind fun v252 => some (.inl (v252, μ))
noncomputable def f_X11_byDay_L151 (a0 : Nat) (l3 : Int32) (l4 : Int32) (s151 : Int32 × Mm) : Option ((Int32 × Mm) ⊕ (Mm)) :=
  (gf_P 12 12 a0 s151.2).bind fun x154 => (ga_I x154 (2 : Int32) s151.2).bind fun x158 => if x158 ≤ s151.1 then some (.inr s151.2) else if (l4 &&& (2 : Int32)) ≤ 0 then some (.inr s151.2) else (gf_P 12 19 a0 s151.2).bind fun x171 => (ga_I x171 s151.1 s151.2).bind fun x176 => if x176 = 0 then none else if (l3 - l3 / x176 * x176) = 0 then (gf_P 12 17 a0 s151.2).bind fun x185 => (ga_I x185 s151.1 s151.2).bind fun x190 => (gf_P 12 18 a0 s151.2).bind fun x194 => (ga_I x194 s151.1 s151.2).bind fun x199 => (gf_P 12 35 a0 s151.2).bind fun x203 => (ga_I x203 x190 s151.2).bind fun x208 => (gf_P 12 35 a0 s151.2).bind fun x210 => (ga_I x210 x199 s151.2).bind fun x215 => (gf_P 12 12 a0 s151.2).bind fun x218 => (ga_I x218 (4 : Int32) s151.2).bind fun x222 => (some ((x208 ||| x215) &&& (x222 ^^^ (-1 : Int32)))).bind fun v226 => (f_X11_learns a0 x190 v226 l3 (2 : Int32) x199 s151.2).bind fun x237 => (f_X11_learns a0 x199 v226 l3 (2 : Int32) x190 x237).bind fun x249 => f_X11_byDay_J252 a0 l3 l4 s151.1 x249 else f_X11_byDay_J252 a0 l3 l4 s151.1 s151.2
noncomputable def f_X11_byDay_J148 (a0 : Nat) (l3 : Int32) (l4 : Int32) (μ : Mm) : Option Mm :=
  (whl (f_X11_byDay_L151 a0 l3 l4) ((0 : Int32), μ)).bind (fun b151 => some b151)
noncomputable def f_X11_byDay_J142 (a0 : Nat) (l1 : Int64) (l3 : Int32) (l4 : Int32) (l5 : Int32) (μ : Mm) : Option ((Int32 × Mm) ⊕ (Mm)) :=
  (some (l5 + (1 : Int32))).bind fun v142 => some (.inl (v142, μ))
noncomputable def f_X11_byDay_L52 (a0 : Nat) (l1 : Int64) (l3 : Int32) (l4 : Int32) (s52 : Int32 × Mm) : Option ((Int32 × Mm) ⊕ (Mm)) :=
  (gf_P 12 12 a0 s52.2).bind fun x55 => (ga_I x55 (3 : Int32) s52.2).bind fun x59 => if x59 ≤ s52.1 then some (.inr s52.2) else if (l4 &&& (4 : Int32)) ≤ 0 then some (.inr s52.2) else (gf_P 12 20 a0 s52.2).bind fun x72 => (ga_I x72 s52.1 s52.2).bind fun x77 => (f_X11_dreamtBy l1 x77 s52.2).bind fun x78 => (gf_P 12 21 a0 s52.2).bind fun x84 => (ga_I x84 s52.1 s52.2).bind fun x89 => if x89 = l3 then if x78 = (-1 : Int32) then f_X11_byDay_J142 a0 l1 l3 l4 s52.1 s52.2 else (f_X11_isDull a0 x78 l3 s52.2).bind fun x104 => if x104 = 0 then (gf_P 12 20 a0 s52.2).bind fun x112 => (ga_I x112 s52.1 s52.2).bind fun x117 => (gf_P 12 35 a0 s52.2).bind fun x119 => (ga_I x119 x78 s52.2).bind fun x124 => (gf_P 12 12 a0 s52.2).bind fun x126 => (ga_I x126 (8 : Int32) s52.2).bind fun x131 => (f_X11_learns a0 x117 (x124 &&& (x131 ^^^ (-1 : Int32))) l3 (1 : Int32) x78 s52.2).bind fun x139 => f_X11_byDay_J142 a0 l1 l3 l4 s52.1 x139 else f_X11_byDay_J142 a0 l1 l3 l4 s52.1 s52.2 else f_X11_byDay_J142 a0 l1 l3 l4 s52.1 s52.2
noncomputable def f_X11_byDay_J49 (a0 : Nat) (l1 : Int64) (l3 : Int32) (l4 : Int32) (μ : Mm) : Option Mm :=
  (whl (f_X11_byDay_L52 a0 l1 l3 l4) ((0 : Int32), μ)).bind (fun b52 => f_X11_byDay_J148 a0 l3 l4 b52)
noncomputable def f_X11_byDay_J43 (a0 : Nat) (l1 : Int64) (l3 : Int32) (l4 : Int32) (l5 : Int32) (μ : Mm) : Option ((Int32 × Mm) ⊕ (Mm)) :=
  (some (l5 + (1 : Int32))).bind fun v43 => some (.inl (v43, μ))
noncomputable def f_X11_byDay_L3 (a0 : Nat) (l1 : Int64) (l3 : Int32) (l4 : Int32) (s3 : Int32 × Mm) : Option ((Int32 × Mm) ⊕ (Mm)) :=
  (gf_P 12 12 a0 s3.2).bind fun x6 => (ga_I x6 (1 : Int32) s3.2).bind fun x10 => if x10 ≤ s3.1 then some (.inr s3.2) else (gf_P 12 16 a0 s3.2).bind fun x15 => (ga_I x15 s3.1 s3.2).bind fun x20 => if x20 = l3 then (gf_P 12 15 a0 s3.2).bind fun x27 => (ga_I x27 s3.1 s3.2).bind fun x32 => (f_X11_learns a0 x32 ((1 : Int32) <<< (s3.1 &&& 31)) l3 (0 : Int32) (-1 : Int32) s3.2).bind fun x40 => f_X11_byDay_J43 a0 l1 l3 l4 s3.1 x40 else f_X11_byDay_J43 a0 l1 l3 l4 s3.1 s3.2
noncomputable def f_X11_byDay (a0 : Nat) (l1 : Int64) (l3 : Int32) (l4 : Int32) (μ : Mm) : Option Mm :=
  if (mm_K μ a0).1 = 12 then (whl (f_X11_byDay_L3 a0 l1 l3 l4) ((0 : Int32), μ)).bind (fun b3 => f_X11_byDay_J49 a0 l1 l3 l4 b3) else none
abbrev Rn_X11_byDay (G : Gv) (Q : Option Value → Mm → Prop) (pc : Nat) (lv : List (Nat × Value)) (st : List Value) (μ : Mm) : Prop := Rn G RX11 cX11_byDay 9 none "byDay" (rmd 2 0 0) (Zm G 0 0 Q) 0 0 pc lv st μ
set_option maxRecDepth 100000 in
set_option maxHeartbeats 4000000 in
theorem m_X11_byDay {G : Gv} (a0 : Nat) (l1 : Int64) (l3 : Int32) (l4 : Int32) (μ : Mm) {r : Mm} (hx : f_X11_byDay a0 l1 l3 l4 μ = some r) : Mt G yX11_byDay cX11_byDay 9 none 2 0 0 [.ref a0, .long l1, .int l3, .int l4] μ (fun v μ' => v = none ∧ μ' = r) := by
  refine Mt.of (by decide) (Nat.le_of_ble_eq_true rfl) ?_
  show Rn_X11_byDay G (fun v μ' => v = none ∧ μ' = r) 0 [(0, .ref a0), (1, .long l1), (3, .int l3), (4, .int l4)] [] μ
  obtain ⟨_, h⟩ := Sat_ifp (show Sat (f_X11_byDay a0 l1 l3 l4 μ) (fun x => x = r) from ⟨_, hx, rfl⟩)
  have J148 : ∀ (a0_148 : Nat) (l3_148 : Int32) (l4_148 : Int32) (μ_148 : Mm), Sat (f_X11_byDay_J148 a0_148 l3_148 l4_148 μ_148) (fun x => x = r) → Rn_X11_byDay G (fun v μ' => v = none ∧ μ' = r) 148 [(0, .ref a0_148), (3, .int l3_148), (4, .int l4_148)] [] μ_148 := by
    intro a0_148 l3_148 l4_148 μ_148 h
    refine r_iconst (v := 0) dX11_byDay_148 (by decide) ?_
    refine r_istore (lv' := [(5, .int (0 : Int32)), (0, .ref a0_148), (3, .int l3_148), (4, .int l4_148)]) dX11_byDay_149 (by decide) rfl ?_
    refine r_sub (lv' := [(0, .ref a0_148), (3, .int l3_148), (4, .int l4_148), (5, .int (0 : Int32))]) [1, 2, 3, 0] rfl ?_
    refine whl_K (s0 := (((0 : Int32), μ_148) : Int32 × Mm)) (RR := fun (s151 : Int32 × Mm) => Rn_X11_byDay G (fun v μ' => v = none ∧ μ' = r) 151 [(0, .ref a0_148), (3, .int l3_148), (4, .int l4_148), (5, .int s151.1)] [] s151.2) ?_ (Sat_bindK h)
    intro s151 K151 hI151 hX151 h
    have J252 : ∀ (l5_252 : Int32) (μ_252 : Mm), Sat (f_X11_byDay_J252 a0_148 l3_148 l4_148 l5_252 μ_252) K151 → Rn_X11_byDay G (fun v μ' => v = none ∧ μ' = r) 252 [(0, .ref a0_148), (3, .int l3_148), (4, .int l4_148), (5, .int l5_252)] [] μ_252 := by
      intro l5_252 μ_252 h
      obtain ⟨v252, e252, h⟩ := Sat_bind h
      refine r_iinc (j := 3) (v := v252) (lv' := [(5, .int v252), (0, .ref a0_148), (3, .int l3_148), (4, .int l4_148)]) dX11_byDay_252 rfl (iinc_v e252 (by decide)) (by decide) rfl ?_
      refine r_goto 151 dX11_byDay_255 (by decide) ?_
      exact r_sub [1, 2, 3, 0] rfl (hI151 _ (Sat_some h))
    refine r_iload dX11_byDay_151 3 rfl ?_
    refine r_aload_n dX11_byDay_153 0 rfl ?_
    obtain ⟨x154, e154, h⟩ := Sat_bind h
    refine r_getP fk_X11_17 rfl e154 dX11_byDay_154 ?_
    refine r_iconst (v := 2) dX11_byDay_157 (by decide) ?_
    obtain ⟨x158, e158, h⟩ := Sat_bind h
    refine r_iaload e158 dX11_byDay_158 ?_
    refine r_icmp_ge 258 dX11_byDay_159 (by decide) (fun c159 => ?_) (fun c159 => ?_)
    · have h := Sat_pos c159 h
      have h := hX151 _ (Sat_some h)
      exact r_vreturn rfl (by rw [← Sat_eq h]; exact ⟨rfl, rfl⟩) dX11_byDay_258
    · have h := Sat_neg c159 h
      refine r_iload dX11_byDay_162 2 rfl ?_
      refine r_iconst (v := 2) dX11_byDay_164 (by decide) ?_
      refine r_iand dX11_byDay_165 ?_
      refine r_if_le 258 dX11_byDay_166 (by decide) (fun c166 => ?_) (fun c166 => ?_)
      · have h := Sat_pos c166 h
        have h := hX151 _ (Sat_some h)
        exact r_vreturn rfl (by rw [← Sat_eq h]; exact ⟨rfl, rfl⟩) dX11_byDay_258
      · have h := Sat_neg c166 h
        refine r_iload_n dX11_byDay_169 1 rfl ?_
        refine r_aload_n dX11_byDay_170 0 rfl ?_
        obtain ⟨x171, e171, h⟩ := Sat_bind h
        refine r_getP fk_X11_40 rfl e171 dX11_byDay_171 ?_
        refine r_iload dX11_byDay_174 3 rfl ?_
        obtain ⟨x176, e176, h⟩ := Sat_bind h
        refine r_iaload e176 dX11_byDay_176 ?_
        obtain ⟨z177, h⟩ := Sat_ifn h
        refine r_irem dX11_byDay_177 z177 ?_
        refine r_if_eq 184 dX11_byDay_178 (by decide) (fun c178 => ?_) (fun c178 => ?_)
        · have h := Sat_pos c178 h
          refine r_aload_n dX11_byDay_184 0 rfl ?_
          obtain ⟨x185, e185, h⟩ := Sat_bind h
          refine r_getP fk_X11_34 rfl e185 dX11_byDay_185 ?_
          refine r_iload dX11_byDay_188 3 rfl ?_
          obtain ⟨x190, e190, h⟩ := Sat_bind h
          refine r_iaload e190 dX11_byDay_190 ?_
          refine r_istore (lv' := [(6, .int x190), (0, .ref a0_148), (3, .int l3_148), (4, .int l4_148), (5, .int s151.1)]) dX11_byDay_191 (by decide) rfl ?_
          refine r_aload_n dX11_byDay_193 1 rfl ?_
          obtain ⟨x194, e194, h⟩ := Sat_bind h
          refine r_getP fk_X11_37 rfl e194 dX11_byDay_194 ?_
          refine r_iload dX11_byDay_197 4 rfl ?_
          obtain ⟨x199, e199, h⟩ := Sat_bind h
          refine r_iaload e199 dX11_byDay_199 ?_
          refine r_istore (lv' := [(7, .int x199), (6, .int x190), (0, .ref a0_148), (3, .int l3_148), (4, .int l4_148), (5, .int s151.1)]) dX11_byDay_200 (by decide) rfl ?_
          refine r_aload_n dX11_byDay_202 2 rfl ?_
          obtain ⟨x203, e203, h⟩ := Sat_bind h
          refine r_getP fk_X11_76 rfl e203 dX11_byDay_203 ?_
          refine r_iload dX11_byDay_206 1 rfl ?_
          obtain ⟨x208, e208, h⟩ := Sat_bind h
          refine r_iaload e208 dX11_byDay_208 ?_
          refine r_aload_n dX11_byDay_209 2 rfl ?_
          obtain ⟨x210, e210, h⟩ := Sat_bind h
          refine r_getP fk_X11_76 rfl e210 dX11_byDay_210 ?_
          refine r_iload dX11_byDay_213 0 rfl ?_
          obtain ⟨x215, e215, h⟩ := Sat_bind h
          refine r_iaload e215 dX11_byDay_215 ?_
          refine r_ior dX11_byDay_216 ?_
          refine r_aload_n dX11_byDay_217 2 rfl ?_
          obtain ⟨x218, e218, h⟩ := Sat_bind h
          refine r_getP fk_X11_17 rfl e218 dX11_byDay_218 ?_
          refine r_iconst (v := 4) dX11_byDay_221 (by decide) ?_
          obtain ⟨x222, e222, h⟩ := Sat_bind h
          refine r_iaload e222 dX11_byDay_222 ?_
          refine r_iconst (v := -1) dX11_byDay_223 (by decide) ?_
          refine r_ixor dX11_byDay_224 ?_
          refine r_iand dX11_byDay_225 ?_
          obtain ⟨v226, e226, h⟩ := Sat_bind h
          refine r_topi (Option.some.inj e226) ?_
          refine r_istore (lv' := [(8, .int v226), (7, .int x199), (6, .int x190), (0, .ref a0_148), (3, .int l3_148), (4, .int l4_148), (5, .int s151.1)]) dX11_byDay_226 (by decide) rfl ?_
          refine r_aload_n dX11_byDay_228 3 rfl ?_
          refine r_iload dX11_byDay_229 2 rfl ?_
          refine r_iload dX11_byDay_231 0 rfl ?_
          refine r_iload_n dX11_byDay_233 4 rfl ?_
          refine r_iconst (v := 2) dX11_byDay_234 (by decide) ?_
          refine r_iload dX11_byDay_235 1 rfl ?_
          obtain ⟨x237, e237, h⟩ := Sat_bind h
          refine r_cV (t := 12) [.int x190, .int v226, .int l3_148, .int (2 : Int32), .int x199] [] (m_X11_learns a0_148 x190 v226 l3_148 (2 : Int32) x199 s151.2 e237) ck_X11_learns lk_X11_346 in_X11_learns se_X11_learns (kd_of e237) ⟨rfl, by decide, by decide⟩ rfl rfl (Nat.le_of_ble_eq_true rfl) ⟨by decide, by decide⟩ ⟨Nat.zero_le _, Nat.zero_le _⟩ dX11_byDay_237 ?_
          refine r_aload_n dX11_byDay_240 3 rfl ?_
          refine r_iload dX11_byDay_241 1 rfl ?_
          refine r_iload dX11_byDay_243 0 rfl ?_
          refine r_iload_n dX11_byDay_245 4 rfl ?_
          refine r_iconst (v := 2) dX11_byDay_246 (by decide) ?_
          refine r_iload dX11_byDay_247 2 rfl ?_
          obtain ⟨x249, e249, h⟩ := Sat_bind h
          refine r_cV (t := 12) [.int x199, .int v226, .int l3_148, .int (2 : Int32), .int x190] [] (m_X11_learns a0_148 x199 v226 l3_148 (2 : Int32) x190 x237 e249) ck_X11_learns lk_X11_346 in_X11_learns se_X11_learns (kd_of e249) ⟨rfl, by decide, by decide⟩ rfl rfl (Nat.le_of_ble_eq_true rfl) ⟨by decide, by decide⟩ ⟨Nat.zero_le _, Nat.zero_le _⟩ dX11_byDay_249 ?_
          exact r_sub [3, 4, 5, 6] rfl (J252 s151.1 x249 h)
        · have h := Sat_neg c178 h
          refine r_goto 252 dX11_byDay_181 (by decide) ?_
          exact r_sub [0, 1, 2, 3] rfl (J252 s151.1 s151.2 h)
  have J49 : ∀ (a0_49 : Nat) (l1_49 : Int64) (l3_49 : Int32) (l4_49 : Int32) (μ_49 : Mm), Sat (f_X11_byDay_J49 a0_49 l1_49 l3_49 l4_49 μ_49) (fun x => x = r) → Rn_X11_byDay G (fun v μ' => v = none ∧ μ' = r) 49 [(0, .ref a0_49), (1, .long l1_49), (3, .int l3_49), (4, .int l4_49)] [] μ_49 := by
    intro a0_49 l1_49 l3_49 l4_49 μ_49 h
    refine r_iconst (v := 0) dX11_byDay_49 (by decide) ?_
    refine r_istore (lv' := [(5, .int (0 : Int32)), (0, .ref a0_49), (1, .long l1_49), (3, .int l3_49), (4, .int l4_49)]) dX11_byDay_50 (by decide) rfl ?_
    refine r_sub (lv' := [(0, .ref a0_49), (1, .long l1_49), (3, .int l3_49), (4, .int l4_49), (5, .int (0 : Int32))]) [1, 2, 3, 4, 0] rfl ?_
    refine whl_K (s0 := (((0 : Int32), μ_49) : Int32 × Mm)) (RR := fun (s52 : Int32 × Mm) => Rn_X11_byDay G (fun v μ' => v = none ∧ μ' = r) 52 [(0, .ref a0_49), (1, .long l1_49), (3, .int l3_49), (4, .int l4_49), (5, .int s52.1)] [] s52.2) ?_ (Sat_bindK h)
    intro s52 K52 hI52 hX52 h
    have J142 : ∀ (l5_142 : Int32) (μ_142 : Mm), Sat (f_X11_byDay_J142 a0_49 l1_49 l3_49 l4_49 l5_142 μ_142) K52 → Rn_X11_byDay G (fun v μ' => v = none ∧ μ' = r) 142 [(0, .ref a0_49), (1, .long l1_49), (3, .int l3_49), (4, .int l4_49), (5, .int l5_142)] [] μ_142 := by
      intro l5_142 μ_142 h
      obtain ⟨v142, e142, h⟩ := Sat_bind h
      refine r_iinc (j := 4) (v := v142) (lv' := [(5, .int v142), (0, .ref a0_49), (1, .long l1_49), (3, .int l3_49), (4, .int l4_49)]) dX11_byDay_142 rfl (iinc_v e142 (by decide)) (by decide) rfl ?_
      refine r_goto 52 dX11_byDay_145 (by decide) ?_
      exact r_sub [1, 2, 3, 4, 0] rfl (hI52 _ (Sat_some h))
    refine r_iload dX11_byDay_52 4 rfl ?_
    refine r_aload_n dX11_byDay_54 0 rfl ?_
    obtain ⟨x55, e55, h⟩ := Sat_bind h
    refine r_getP fk_X11_17 rfl e55 dX11_byDay_55 ?_
    refine r_iconst (v := 3) dX11_byDay_58 (by decide) ?_
    obtain ⟨x59, e59, h⟩ := Sat_bind h
    refine r_iaload e59 dX11_byDay_59 ?_
    refine r_icmp_ge 148 dX11_byDay_60 (by decide) (fun c60 => ?_) (fun c60 => ?_)
    · have h := Sat_pos c60 h
      have h := hX52 _ (Sat_some h)
      exact r_sub [0, 2, 3] rfl (J148 a0_49 l3_49 l4_49 s52.2 h)
    · have h := Sat_neg c60 h
      refine r_iload dX11_byDay_63 3 rfl ?_
      refine r_iconst (v := 4) dX11_byDay_65 (by decide) ?_
      refine r_iand dX11_byDay_66 ?_
      refine r_if_le 148 dX11_byDay_67 (by decide) (fun c67 => ?_) (fun c67 => ?_)
      · have h := Sat_pos c67 h
        have h := hX52 _ (Sat_some h)
        exact r_sub [0, 2, 3] rfl (J148 a0_49 l3_49 l4_49 s52.2 h)
      · have h := Sat_neg c67 h
        refine r_lload_n dX11_byDay_70 1 rfl ?_
        refine r_aload_n dX11_byDay_71 0 rfl ?_
        obtain ⟨x72, e72, h⟩ := Sat_bind h
        refine r_getP fk_X11_43 rfl e72 dX11_byDay_72 ?_
        refine r_iload dX11_byDay_75 4 rfl ?_
        obtain ⟨x77, e77, h⟩ := Sat_bind h
        refine r_iaload e77 dX11_byDay_77 ?_
        obtain ⟨x78, e78, h⟩ := Sat_bind h
        refine r_cS [.long l1_49, .int x77] [] (m_X11_dreamtBy l1_49 x77 s52.2 e78) ck_X11_dreamtBy lk_X11_320 st_X11_dreamtBy rfl rfl (Nat.le_of_ble_eq_true rfl) ⟨by decide, by decide⟩ ⟨Nat.zero_le _, Nat.zero_le _⟩ dX11_byDay_78 ?_
        refine r_istore (lv' := [(6, .int x78), (0, .ref a0_49), (1, .long l1_49), (3, .int l3_49), (4, .int l4_49), (5, .int s52.1)]) dX11_byDay_81 (by decide) rfl ?_
        refine r_aload_n dX11_byDay_83 1 rfl ?_
        obtain ⟨x84, e84, h⟩ := Sat_bind h
        refine r_getP fk_X11_46 rfl e84 dX11_byDay_84 ?_
        refine r_iload dX11_byDay_87 5 rfl ?_
        obtain ⟨x89, e89, h⟩ := Sat_bind h
        refine r_iaload e89 dX11_byDay_89 ?_
        refine r_iload_n dX11_byDay_90 3 rfl ?_
        refine r_icmp_ne 142 dX11_byDay_91 (by decide) (fun c91 => ?_) (fun c91 => ?_)
        · have h := Sat_neg c91 h
          exact r_sub [1, 2, 3, 4, 5] rfl (J142 s52.1 s52.2 h)
        · have h := Sat_pos c91 h
          refine r_iload dX11_byDay_94 0 rfl ?_
          refine r_iconst (v := -1) dX11_byDay_96 (by decide) ?_
          refine r_icmp_eq 142 dX11_byDay_97 (by decide) (fun c97 => ?_) (fun c97 => ?_)
          · have h := Sat_pos c97 h
            exact r_sub [1, 2, 3, 4, 5] rfl (J142 s52.1 s52.2 h)
          · have h := Sat_neg c97 h
            refine r_aload_n dX11_byDay_100 1 rfl ?_
            refine r_iload dX11_byDay_101 0 rfl ?_
            refine r_iload_n dX11_byDay_103 3 rfl ?_
            obtain ⟨x104, e104, h⟩ := Sat_bind h
            refine r_cV (t := 12) [.int x78, .int l3_49] [] (m_X11_isDull a0_49 x78 l3_49 s52.2 e104) ck_X11_isDull lk_X11_350 in_X11_isDull se_X11_isDull (kd_of e104) ⟨rfl, by decide, by decide⟩ rfl rfl (Nat.le_of_ble_eq_true rfl) ⟨by decide, by decide⟩ ⟨Nat.zero_le _, Nat.zero_le _⟩ dX11_byDay_104 ?_
            refine r_if_ne 142 dX11_byDay_107 (by decide) (fun c107 => ?_) (fun c107 => ?_)
            · have h := Sat_neg c107 h
              exact r_sub [1, 2, 3, 4, 5] rfl (J142 s52.1 s52.2 h)
            · have h := Sat_pos c107 h
              refine r_aload_n dX11_byDay_110 1 rfl ?_
              refine r_aload_n dX11_byDay_111 1 rfl ?_
              obtain ⟨x112, e112, h⟩ := Sat_bind h
              refine r_getP fk_X11_43 rfl e112 dX11_byDay_112 ?_
              refine r_iload dX11_byDay_115 5 rfl ?_
              obtain ⟨x117, e117, h⟩ := Sat_bind h
              refine r_iaload e117 dX11_byDay_117 ?_
              refine r_aload_n dX11_byDay_118 1 rfl ?_
              obtain ⟨x119, e119, h⟩ := Sat_bind h
              refine r_getP fk_X11_76 rfl e119 dX11_byDay_119 ?_
              refine r_iload dX11_byDay_122 0 rfl ?_
              obtain ⟨x124, e124, h⟩ := Sat_bind h
              refine r_iaload e124 dX11_byDay_124 ?_
              refine r_aload_n dX11_byDay_125 1 rfl ?_
              obtain ⟨x126, e126, h⟩ := Sat_bind h
              refine r_getP fk_X11_17 rfl e126 dX11_byDay_126 ?_
              refine r_bipush (v := 8) dX11_byDay_129 (by decide) ?_
              obtain ⟨x131, e131, h⟩ := Sat_bind h
              refine r_iaload e131 dX11_byDay_131 ?_
              refine r_iconst (v := -1) dX11_byDay_132 (by decide) ?_
              refine r_ixor dX11_byDay_133 ?_
              refine r_iand dX11_byDay_134 ?_
              refine r_iload_n dX11_byDay_135 3 rfl ?_
              refine r_iconst (v := 1) dX11_byDay_136 (by decide) ?_
              refine r_iload dX11_byDay_137 0 rfl ?_
              obtain ⟨x139, e139, h⟩ := Sat_bind h
              refine r_cV (t := 12) [.int x117, .int (x124 &&& (x131 ^^^ (-1 : Int32))), .int l3_49, .int (1 : Int32), .int x78] [] (m_X11_learns a0_49 x117 (x124 &&& (x131 ^^^ (-1 : Int32))) l3_49 (1 : Int32) x78 s52.2 e139) ck_X11_learns lk_X11_346 in_X11_learns se_X11_learns (kd_of e139) ⟨rfl, by decide, by decide⟩ rfl rfl (Nat.le_of_ble_eq_true rfl) ⟨by decide, by decide⟩ ⟨Nat.zero_le _, Nat.zero_le _⟩ dX11_byDay_139 ?_
              exact r_sub [1, 2, 3, 4, 5] rfl (J142 s52.1 x139 h)
  refine r_iconst (v := 0) dX11_byDay_0 (by decide) ?_
  refine r_istore (lv' := [(5, .int (0 : Int32)), (0, .ref a0), (1, .long l1), (3, .int l3), (4, .int l4)]) dX11_byDay_1 (by decide) rfl ?_
  refine r_sub (lv' := [(0, .ref a0), (1, .long l1), (3, .int l3), (4, .int l4), (5, .int (0 : Int32))]) [1, 2, 3, 4, 0] rfl ?_
  refine whl_K (s0 := (((0 : Int32), μ) : Int32 × Mm)) (RR := fun (s3 : Int32 × Mm) => Rn_X11_byDay G (fun v μ' => v = none ∧ μ' = r) 3 [(0, .ref a0), (1, .long l1), (3, .int l3), (4, .int l4), (5, .int s3.1)] [] s3.2) ?_ (Sat_bindK h)
  intro s3 K3 hI3 hX3 h
  have J43 : ∀ (l5_43 : Int32) (μ_43 : Mm), Sat (f_X11_byDay_J43 a0 l1 l3 l4 l5_43 μ_43) K3 → Rn_X11_byDay G (fun v μ' => v = none ∧ μ' = r) 43 [(0, .ref a0), (1, .long l1), (3, .int l3), (4, .int l4), (5, .int l5_43)] [] μ_43 := by
    intro l5_43 μ_43 h
    obtain ⟨v43, e43, h⟩ := Sat_bind h
    refine r_iinc (j := 4) (v := v43) (lv' := [(5, .int v43), (0, .ref a0), (1, .long l1), (3, .int l3), (4, .int l4)]) dX11_byDay_43 rfl (iinc_v e43 (by decide)) (by decide) rfl ?_
    refine r_goto 3 dX11_byDay_46 (by decide) ?_
    exact r_sub [1, 2, 3, 4, 0] rfl (hI3 _ (Sat_some h))
  refine r_iload dX11_byDay_3 4 rfl ?_
  refine r_aload_n dX11_byDay_5 0 rfl ?_
  obtain ⟨x6, e6, h⟩ := Sat_bind h
  refine r_getP fk_X11_17 rfl e6 dX11_byDay_6 ?_
  refine r_iconst (v := 1) dX11_byDay_9 (by decide) ?_
  obtain ⟨x10, e10, h⟩ := Sat_bind h
  refine r_iaload e10 dX11_byDay_10 ?_
  refine r_icmp_ge 49 dX11_byDay_11 (by decide) (fun c11 => ?_) (fun c11 => ?_)
  · have h := Sat_pos c11 h
    have h := hX3 _ (Sat_some h)
    exact r_sub [0, 1, 2, 3] rfl (J49 a0 l1 l3 l4 s3.2 h)
  · have h := Sat_neg c11 h
    refine r_aload_n dX11_byDay_14 0 rfl ?_
    obtain ⟨x15, e15, h⟩ := Sat_bind h
    refine r_getP fk_X11_31 rfl e15 dX11_byDay_15 ?_
    refine r_iload dX11_byDay_18 4 rfl ?_
    obtain ⟨x20, e20, h⟩ := Sat_bind h
    refine r_iaload e20 dX11_byDay_20 ?_
    refine r_iload_n dX11_byDay_21 2 rfl ?_
    refine r_icmp_ne 43 dX11_byDay_22 (by decide) (fun c22 => ?_) (fun c22 => ?_)
    · have h := Sat_neg c22 h
      exact r_sub [0, 1, 2, 3, 4] rfl (J43 s3.1 s3.2 h)
    · have h := Sat_pos c22 h
      refine r_aload_n dX11_byDay_25 0 rfl ?_
      refine r_aload_n dX11_byDay_26 0 rfl ?_
      obtain ⟨x27, e27, h⟩ := Sat_bind h
      refine r_getP fk_X11_28 rfl e27 dX11_byDay_27 ?_
      refine r_iload dX11_byDay_30 4 rfl ?_
      obtain ⟨x32, e32, h⟩ := Sat_bind h
      refine r_iaload e32 dX11_byDay_32 ?_
      refine r_iconst (v := 1) dX11_byDay_33 (by decide) ?_
      refine r_iload dX11_byDay_34 4 rfl ?_
      refine r_ishl dX11_byDay_36 ?_
      refine r_iload_n dX11_byDay_37 2 rfl ?_
      refine r_iconst (v := 0) dX11_byDay_38 (by decide) ?_
      refine r_iconst (v := -1) dX11_byDay_39 (by decide) ?_
      obtain ⟨x40, e40, h⟩ := Sat_bind h
      refine r_cV (t := 12) [.int x32, .int ((1 : Int32) <<< (s3.1 &&& 31)), .int l3, .int (0 : Int32), .int (-1 : Int32)] [] (m_X11_learns a0 x32 ((1 : Int32) <<< (s3.1 &&& 31)) l3 (0 : Int32) (-1 : Int32) s3.2 e40) ck_X11_learns lk_X11_346 in_X11_learns se_X11_learns (kd_of e40) ⟨rfl, by decide, by decide⟩ rfl rfl (Nat.le_of_ble_eq_true rfl) ⟨by decide, by decide⟩ ⟨Nat.zero_le _, Nat.zero_le _⟩ dX11_byDay_40 ?_
      exact r_sub [0, 1, 2, 3, 4] rfl (J43 s3.1 x40 h)
