theorem dX11_readNumber_0 : decode cX11_readNumber 0 = .ok (.aload_n 0, 1) := by decide +kernel
theorem dX11_readNumber_1 : decode cX11_readNumber 1 = .ok (.getfield 186, 3) := by decide +kernel
theorem dX11_readNumber_4 : decode cX11_readNumber 4 = .ok (.iconst 2, 1) := by decide +kernel
theorem dX11_readNumber_5 : decode cX11_readNumber 5 = .ok (.if_icmp .eq 9, 3) := by decide +kernel
theorem dX11_readNumber_8 : decode cX11_readNumber 8 = .ok (.aload_n 0, 1) := by decide +kernel
theorem dX11_readNumber_9 : decode cX11_readNumber 9 = .ok (.iconst 1, 1) := by decide +kernel
theorem dX11_readNumber_10 : decode cX11_readNumber 10 = .ok (.invokevirtual 214, 3) := by decide +kernel
theorem dX11_readNumber_13 : decode cX11_readNumber 13 = .ok (.ireturn, 1) := by decide +kernel
theorem dX11_readNumber_14 : decode cX11_readNumber 14 = .ok (.aload_n 0, 1) := by decide +kernel
theorem dX11_readNumber_15 : decode cX11_readNumber 15 = .ok (.getfield 208, 3) := by decide +kernel
theorem dX11_readNumber_18 : decode cX11_readNumber 18 = .ok (.iload_n 1, 1) := by decide +kernel
theorem dX11_readNumber_19 : decode cX11_readNumber 19 = .ok (.iload_n 2, 1) := by decide +kernel
theorem dX11_readNumber_20 : decode cX11_readNumber 20 = .ok (.invokestatic 217, 3) := by decide +kernel
theorem dX11_readNumber_23 : decode cX11_readNumber 23 = .ok (.ifCond .ne 9, 3) := by decide +kernel
theorem dX11_readNumber_26 : decode cX11_readNumber 26 = .ok (.aload_n 0, 1) := by decide +kernel
theorem dX11_readNumber_27 : decode cX11_readNumber 27 = .ok (.iconst 2, 1) := by decide +kernel
theorem dX11_readNumber_28 : decode cX11_readNumber 28 = .ok (.invokevirtual 214, 3) := by decide +kernel
theorem dX11_readNumber_31 : decode cX11_readNumber 31 = .ok (.ireturn, 1) := by decide +kernel
theorem dX11_readNumber_32 : decode cX11_readNumber 32 = .ok (.aload_n 0, 1) := by decide +kernel
theorem dX11_readNumber_33 : decode cX11_readNumber 33 = .ok (.aload_n 0, 1) := by decide +kernel
theorem dX11_readNumber_34 : decode cX11_readNumber 34 = .ok (.getfield 208, 3) := by decide +kernel
theorem dX11_readNumber_37 : decode cX11_readNumber 37 = .ok (.putfield 221, 3) := by decide +kernel
theorem dX11_readNumber_40 : decode cX11_readNumber 40 = .ok (.aload_n 0, 1) := by decide +kernel
theorem dX11_readNumber_41 : decode cX11_readNumber 41 = .ok (.invokevirtual 224, 3) := by decide +kernel
theorem dX11_readNumber_44 : decode cX11_readNumber 44 = .ok (.iconst 1, 1) := by decide +kernel
theorem dX11_readNumber_45 : decode cX11_readNumber 45 = .ok (.ireturn, 1) := by decide +kernel
noncomputable def f_X11_readNumber (a0 : Nat) (l1 : Int32) (l2 : Int32) (μ : Mm) : Option (Int32 × Mm) :=
  if (mm_K μ a0).1 = 12 then (gf_I 12 3 a0 μ).bind fun x1 => if x1 = (2 : Int32) then (gf_I 12 7 a0 μ).bind fun x15 => (f_X11_in x15 l1 l2 μ).bind fun x20 => if x20 = 0 then (f_X11_fails a0 (2 : Int32) μ).bind fun x28 => if x28.1 = 0 ∨ x28.1 = 1 then some (x28.1, x28.2) else none else (gf_I 12 7 a0 μ).bind fun x34 => (pf_I 12 11 a0 x34 μ).bind fun μ37 => (f_X11_scan a0 μ37).bind fun x41 => some ((1 : Int32), x41) else (f_X11_fails a0 (1 : Int32) μ).bind fun x10 => if x10.1 = 0 ∨ x10.1 = 1 then some (x10.1, x10.2) else none else none
abbrev Rn_X11_readNumber (G : Gv) (Q : Option Value → Mm → Prop) (pc : Nat) (lv : List (Nat × Value)) (st : List Value) (μ : Mm) : Prop := Rn G RX11 cX11_readNumber 3 (some .boolean) "readNumber" (rmd 6 0 0) (Zm G 0 0 Q) 0 0 pc lv st μ
set_option maxRecDepth 100000 in
set_option maxHeartbeats 4000000 in
theorem m_X11_readNumber {G : Gv} (a0 : Nat) (l1 : Int32) (l2 : Int32) (μ : Mm) {r : (Int32 × Mm)} (hx : f_X11_readNumber a0 l1 l2 μ = some r) : Mt G yX11_readNumber cX11_readNumber 3 (some .boolean) 6 0 0 [.ref a0, .int l1, .int l2] μ (fun v μ' => v = some (.int r.1) ∧ μ' = r.2) := by
  refine Mt.of (by decide) (Nat.le_of_ble_eq_true rfl) ?_
  show Rn_X11_readNumber G (fun v μ' => v = some (.int r.1) ∧ μ' = r.2) 0 [(0, .ref a0), (1, .int l1), (2, .int l2)] [] μ
  obtain ⟨_, h⟩ := Sat_ifp (show Sat (f_X11_readNumber a0 l1 l2 μ) (fun x => x = r) from ⟨_, hx, rfl⟩)
  refine r_aload_n dX11_readNumber_0 0 rfl ?_
  obtain ⟨x1, e1, h⟩ := Sat_bind h
  refine r_getI fk_X11_186 rfl e1 dX11_readNumber_1 ?_
  refine r_iconst (v := 2) dX11_readNumber_4 (by decide) ?_
  refine r_icmp_eq 14 dX11_readNumber_5 (by decide) (fun c5 => ?_) (fun c5 => ?_)
  · have h := Sat_pos c5 h
    refine r_aload_n dX11_readNumber_14 0 rfl ?_
    obtain ⟨x15, e15, h⟩ := Sat_bind h
    refine r_getI fk_X11_208 rfl e15 dX11_readNumber_15 ?_
    refine r_iload_n dX11_readNumber_18 1 rfl ?_
    refine r_iload_n dX11_readNumber_19 2 rfl ?_
    obtain ⟨x20, e20, h⟩ := Sat_bind h
    refine r_cS [.int x15, .int l1, .int l2] [] (m_X11_in x15 l1 l2 μ e20) ck_X11_in lk_X11_217 st_X11_in rfl rfl (Nat.le_of_ble_eq_true rfl) ⟨by decide, by decide⟩ ⟨Nat.zero_le _, Nat.zero_le _⟩ dX11_readNumber_20 ?_
    refine r_if_ne 32 dX11_readNumber_23 (by decide) (fun c23 => ?_) (fun c23 => ?_)
    · have h := Sat_neg c23 h
      refine r_aload_n dX11_readNumber_32 0 rfl ?_
      refine r_aload_n dX11_readNumber_33 0 rfl ?_
      obtain ⟨x34, e34, h⟩ := Sat_bind h
      refine r_getI fk_X11_208 rfl e34 dX11_readNumber_34 ?_
      obtain ⟨μ37, e37, h⟩ := Sat_bind h
      refine r_putI fk_X11_221 rfl rfl e37 dX11_readNumber_37 ?_
      refine r_aload_n dX11_readNumber_40 0 rfl ?_
      obtain ⟨x41, e41, h⟩ := Sat_bind h
      refine r_cV (t := 12) [] [] (m_X11_scan a0 μ37 e41) ck_X11_scan lk_X11_224 in_X11_scan se_X11_scan (kd_of e41) ⟨rfl, by decide, by decide⟩ rfl rfl (Nat.le_of_ble_eq_true rfl) ⟨by decide, by decide⟩ ⟨Nat.zero_le _, Nat.zero_le _⟩ dX11_readNumber_41 ?_
      refine r_iconst (v := 1) dX11_readNumber_44 (by decide) ?_
      exact r_zreturn rfl (by decide) (by rw [← Sat_eq h]; exact ⟨rfl, rfl⟩) dX11_readNumber_45
    · have h := Sat_pos c23 h
      refine r_aload_n dX11_readNumber_26 0 rfl ?_
      refine r_iconst (v := 2) dX11_readNumber_27 (by decide) ?_
      obtain ⟨x28, e28, h⟩ := Sat_bind h
      refine r_cV (t := 12) [.int (2 : Int32)] [] (m_X11_fails a0 (2 : Int32) μ e28) ck_X11_fails lk_X11_214 in_X11_fails se_X11_fails (kd_of e28) ⟨rfl, by decide, by decide⟩ rfl rfl (Nat.le_of_ble_eq_true rfl) ⟨by decide, by decide⟩ ⟨Nat.zero_le _, Nat.zero_le _⟩ dX11_readNumber_28 ?_
      obtain ⟨hz, h⟩ := Sat_ifp h
      exact r_zreturn rfl hz (by rw [← Sat_eq h]; exact ⟨rfl, rfl⟩) dX11_readNumber_31
  · have h := Sat_neg c5 h
    refine r_aload_n dX11_readNumber_8 0 rfl ?_
    refine r_iconst (v := 1) dX11_readNumber_9 (by decide) ?_
    obtain ⟨x10, e10, h⟩ := Sat_bind h
    refine r_cV (t := 12) [.int (1 : Int32)] [] (m_X11_fails a0 (1 : Int32) μ e10) ck_X11_fails lk_X11_214 in_X11_fails se_X11_fails (kd_of e10) ⟨rfl, by decide, by decide⟩ rfl rfl (Nat.le_of_ble_eq_true rfl) ⟨by decide, by decide⟩ ⟨Nat.zero_le _, Nat.zero_le _⟩ dX11_readNumber_10 ?_
    obtain ⟨hz, h⟩ := Sat_ifp h
    exact r_zreturn rfl hz (by rw [← Sat_eq h]; exact ⟨rfl, rfl⟩) dX11_readNumber_13
theorem dX11_readInto_0 : decode cX11_readInto 0 = .ok (.aload_n 0, 1) := by decide +kernel
theorem dX11_readInto_1 : decode cX11_readInto 1 = .ok (.iload_n 3, 1) := by decide +kernel
theorem dX11_readInto_2 : decode cX11_readInto 2 = .ok (.iload 4, 2) := by decide +kernel
theorem dX11_readInto_4 : decode cX11_readInto 4 = .ok (.invokevirtual 266, 3) := by decide +kernel
theorem dX11_readInto_7 : decode cX11_readInto 7 = .ok (.ifCond .ne 5, 3) := by decide +kernel
theorem dX11_readInto_10 : decode cX11_readInto 10 = .ok (.iconst 0, 1) := by decide +kernel
theorem dX11_readInto_11 : decode cX11_readInto 11 = .ok (.ireturn, 1) := by decide +kernel
theorem dX11_readInto_12 : decode cX11_readInto 12 = .ok (.aload_n 1, 1) := by decide +kernel
theorem dX11_readInto_13 : decode cX11_readInto 13 = .ok (.iload_n 2, 1) := by decide +kernel
theorem dX11_readInto_14 : decode cX11_readInto 14 = .ok (.aload_n 0, 1) := by decide +kernel
theorem dX11_readInto_15 : decode cX11_readInto 15 = .ok (.getfield 221, 3) := by decide +kernel
theorem dX11_readInto_18 : decode cX11_readInto 18 = .ok (.iastore, 1) := by decide +kernel
theorem dX11_readInto_19 : decode cX11_readInto 19 = .ok (.iconst 1, 1) := by decide +kernel
theorem dX11_readInto_20 : decode cX11_readInto 20 = .ok (.ireturn, 1) := by decide +kernel
noncomputable def f_X11_readInto (a0 : Nat) (l1 : Nat) (l2 : Int32) (l3 : Int32) (l4 : Int32) (μ : Mm) : Option (Int32 × Mm) :=
  if (mm_K μ a0).1 = 12 then (f_X11_readNumber a0 l3 l4 μ).bind fun x4 => if x4.1 = 0 then some ((0 : Int32), x4.2) else (gf_I 12 11 a0 x4.2).bind fun x15 => (pa_I l1 l2 x15 x4.2).bind fun μ18 => some ((1 : Int32), μ18) else none
abbrev Rn_X11_readInto (G : Gv) (Q : Option Value → Mm → Prop) (pc : Nat) (lv : List (Nat × Value)) (st : List Value) (μ : Mm) : Prop := Rn G RX11 cX11_readInto 5 (some .boolean) "readInto" (rmd 7 0 0) (Zm G 0 0 Q) 0 0 pc lv st μ
set_option maxRecDepth 100000 in
set_option maxHeartbeats 4000000 in
theorem m_X11_readInto {G : Gv} (a0 : Nat) (l1 : Nat) (l2 : Int32) (l3 : Int32) (l4 : Int32) (μ : Mm) {r : (Int32 × Mm)} (hx : f_X11_readInto a0 l1 l2 l3 l4 μ = some r) : Mt G yX11_readInto cX11_readInto 5 (some .boolean) 7 0 0 [.ref a0, .ref l1, .int l2, .int l3, .int l4] μ (fun v μ' => v = some (.int r.1) ∧ μ' = r.2) := by
  refine Mt.of (by decide) (Nat.le_of_ble_eq_true rfl) ?_
  show Rn_X11_readInto G (fun v μ' => v = some (.int r.1) ∧ μ' = r.2) 0 [(0, .ref a0), (1, .ref l1), (2, .int l2), (3, .int l3), (4, .int l4)] [] μ
  obtain ⟨_, h⟩ := Sat_ifp (show Sat (f_X11_readInto a0 l1 l2 l3 l4 μ) (fun x => x = r) from ⟨_, hx, rfl⟩)
  refine r_aload_n dX11_readInto_0 0 rfl ?_
  refine r_iload_n dX11_readInto_1 3 rfl ?_
  refine r_iload dX11_readInto_2 4 rfl ?_
  obtain ⟨x4, e4, h⟩ := Sat_bind h
  refine r_cV (t := 12) [.int l3, .int l4] [] (m_X11_readNumber a0 l3 l4 μ e4) ck_X11_readNumber lk_X11_266 in_X11_readNumber se_X11_readNumber (kd_of e4) ⟨rfl, by decide, by decide⟩ rfl rfl (Nat.le_of_ble_eq_true rfl) ⟨by decide, by decide⟩ ⟨Nat.zero_le _, Nat.zero_le _⟩ dX11_readInto_4 ?_
  refine r_if_ne 12 dX11_readInto_7 (by decide) (fun c7 => ?_) (fun c7 => ?_)
  · have h := Sat_neg c7 h
    refine r_aload_n dX11_readInto_12 1 rfl ?_
    refine r_iload_n dX11_readInto_13 2 rfl ?_
    refine r_aload_n dX11_readInto_14 0 rfl ?_
    obtain ⟨x15, e15, h⟩ := Sat_bind h
    refine r_getI fk_X11_221 rfl e15 dX11_readInto_15 ?_
    obtain ⟨μ18, e18, h⟩ := Sat_bind h
    refine r_iastore e18 dX11_readInto_18 ?_
    refine r_iconst (v := 1) dX11_readInto_19 (by decide) ?_
    exact r_zreturn rfl (by decide) (by rw [← Sat_eq h]; exact ⟨rfl, rfl⟩) dX11_readInto_20
  · have h := Sat_pos c7 h
    refine r_iconst (v := 0) dX11_readInto_10 (by decide) ?_
    exact r_zreturn rfl (by decide) (by rw [← Sat_eq h]; exact ⟨rfl, rfl⟩) dX11_readInto_11
theorem dX11_readWho_0 : decode cX11_readWho 0 = .ok (.aload_n 0, 1) := by decide +kernel
theorem dX11_readWho_1 : decode cX11_readWho 1 = .ok (.getfield 186, 3) := by decide +kernel
theorem dX11_readWho_4 : decode cX11_readWho 4 = .ok (.iconst 1, 1) := by decide +kernel
theorem dX11_readWho_5 : decode cX11_readWho 5 = .ok (.if_icmp .eq 9, 3) := by decide +kernel
theorem dX11_readWho_8 : decode cX11_readWho 8 = .ok (.aload_n 0, 1) := by decide +kernel
theorem dX11_readWho_9 : decode cX11_readWho 9 = .ok (.iconst 1, 1) := by decide +kernel
theorem dX11_readWho_10 : decode cX11_readWho 10 = .ok (.invokevirtual 214, 3) := by decide +kernel
theorem dX11_readWho_13 : decode cX11_readWho 13 = .ok (.ireturn, 1) := by decide +kernel
theorem dX11_readWho_14 : decode cX11_readWho 14 = .ok (.aload_n 0, 1) := by decide +kernel
theorem dX11_readWho_15 : decode cX11_readWho 15 = .ok (.invokevirtual 257, 3) := by decide +kernel
theorem dX11_readWho_18 : decode cX11_readWho 18 = .ok (.istore_n 3, 1) := by decide +kernel
theorem dX11_readWho_19 : decode cX11_readWho 19 = .ok (.iload_n 3, 1) := by decide +kernel
theorem dX11_readWho_20 : decode cX11_readWho 20 = .ok (.iconst (-1), 1) := by decide +kernel
theorem dX11_readWho_21 : decode cX11_readWho 21 = .ok (.if_icmp .ne 9, 3) := by decide +kernel
theorem dX11_readWho_24 : decode cX11_readWho 24 = .ok (.aload_n 0, 1) := by decide +kernel
theorem dX11_readWho_25 : decode cX11_readWho 25 = .ok (.iconst 5, 1) := by decide +kernel
theorem dX11_readWho_26 : decode cX11_readWho 26 = .ok (.invokevirtual 214, 3) := by decide +kernel
theorem dX11_readWho_29 : decode cX11_readWho 29 = .ok (.ireturn, 1) := by decide +kernel
theorem dX11_readWho_30 : decode cX11_readWho 30 = .ok (.aload_n 1, 1) := by decide +kernel
theorem dX11_readWho_31 : decode cX11_readWho 31 = .ok (.iload_n 2, 1) := by decide +kernel
theorem dX11_readWho_32 : decode cX11_readWho 32 = .ok (.iload_n 3, 1) := by decide +kernel
theorem dX11_readWho_33 : decode cX11_readWho 33 = .ok (.iastore, 1) := by decide +kernel
theorem dX11_readWho_34 : decode cX11_readWho 34 = .ok (.aload_n 0, 1) := by decide +kernel
theorem dX11_readWho_35 : decode cX11_readWho 35 = .ok (.invokevirtual 224, 3) := by decide +kernel
theorem dX11_readWho_38 : decode cX11_readWho 38 = .ok (.iconst 1, 1) := by decide +kernel
theorem dX11_readWho_39 : decode cX11_readWho 39 = .ok (.ireturn, 1) := by decide +kernel
noncomputable def f_X11_readWho (a0 : Nat) (l1 : Nat) (l2 : Int32) (μ : Mm) : Option (Int32 × Mm) :=
  if (mm_K μ a0).1 = 12 then (gf_I 12 3 a0 μ).bind fun x1 => if x1 = (1 : Int32) then (f_X11_named a0 μ).bind fun x15 => if x15 = (-1 : Int32) then (f_X11_fails a0 (5 : Int32) μ).bind fun x26 => if x26.1 = 0 ∨ x26.1 = 1 then some (x26.1, x26.2) else none else (pa_I l1 l2 x15 μ).bind fun μ33 => (f_X11_scan a0 μ33).bind fun x35 => some ((1 : Int32), x35) else (f_X11_fails a0 (1 : Int32) μ).bind fun x10 => if x10.1 = 0 ∨ x10.1 = 1 then some (x10.1, x10.2) else none else none
abbrev Rn_X11_readWho (G : Gv) (Q : Option Value → Mm → Prop) (pc : Nat) (lv : List (Nat × Value)) (st : List Value) (μ : Mm) : Prop := Rn G RX11 cX11_readWho 4 (some .boolean) "readWho" (rmd 6 0 0) (Zm G 0 0 Q) 0 0 pc lv st μ
set_option maxRecDepth 100000 in
set_option maxHeartbeats 4000000 in
theorem m_X11_readWho {G : Gv} (a0 : Nat) (l1 : Nat) (l2 : Int32) (μ : Mm) {r : (Int32 × Mm)} (hx : f_X11_readWho a0 l1 l2 μ = some r) : Mt G yX11_readWho cX11_readWho 4 (some .boolean) 6 0 0 [.ref a0, .ref l1, .int l2] μ (fun v μ' => v = some (.int r.1) ∧ μ' = r.2) := by
  refine Mt.of (by decide) (Nat.le_of_ble_eq_true rfl) ?_
  show Rn_X11_readWho G (fun v μ' => v = some (.int r.1) ∧ μ' = r.2) 0 [(0, .ref a0), (1, .ref l1), (2, .int l2)] [] μ
  obtain ⟨_, h⟩ := Sat_ifp (show Sat (f_X11_readWho a0 l1 l2 μ) (fun x => x = r) from ⟨_, hx, rfl⟩)
  refine r_aload_n dX11_readWho_0 0 rfl ?_
  obtain ⟨x1, e1, h⟩ := Sat_bind h
  refine r_getI fk_X11_186 rfl e1 dX11_readWho_1 ?_
  refine r_iconst (v := 1) dX11_readWho_4 (by decide) ?_
  refine r_icmp_eq 14 dX11_readWho_5 (by decide) (fun c5 => ?_) (fun c5 => ?_)
  · have h := Sat_pos c5 h
    refine r_aload_n dX11_readWho_14 0 rfl ?_
    obtain ⟨x15, e15, h⟩ := Sat_bind h
    refine r_cV (t := 12) [] [] (m_X11_named a0 μ e15) ck_X11_named lk_X11_257 in_X11_named se_X11_named (kd_of e15) ⟨rfl, by decide, by decide⟩ rfl rfl (Nat.le_of_ble_eq_true rfl) ⟨by decide, by decide⟩ ⟨Nat.zero_le _, Nat.zero_le _⟩ dX11_readWho_15 ?_
    refine r_istore_n (lv' := [(3, .int x15), (0, .ref a0), (1, .ref l1), (2, .int l2)]) dX11_readWho_18 rfl (by decide) rfl ?_
    refine r_iload_n dX11_readWho_19 0 rfl ?_
    refine r_iconst (v := -1) dX11_readWho_20 (by decide) ?_
    refine r_icmp_ne 30 dX11_readWho_21 (by decide) (fun c21 => ?_) (fun c21 => ?_)
    · have h := Sat_neg c21 h
      refine r_aload_n dX11_readWho_30 2 rfl ?_
      refine r_iload_n dX11_readWho_31 3 rfl ?_
      refine r_iload_n dX11_readWho_32 0 rfl ?_
      obtain ⟨μ33, e33, h⟩ := Sat_bind h
      refine r_iastore e33 dX11_readWho_33 ?_
      refine r_aload_n dX11_readWho_34 1 rfl ?_
      obtain ⟨x35, e35, h⟩ := Sat_bind h
      refine r_cV (t := 12) [] [] (m_X11_scan a0 μ33 e35) ck_X11_scan lk_X11_224 in_X11_scan se_X11_scan (kd_of e35) ⟨rfl, by decide, by decide⟩ rfl rfl (Nat.le_of_ble_eq_true rfl) ⟨by decide, by decide⟩ ⟨Nat.zero_le _, Nat.zero_le _⟩ dX11_readWho_35 ?_
      refine r_iconst (v := 1) dX11_readWho_38 (by decide) ?_
      exact r_zreturn rfl (by decide) (by rw [← Sat_eq h]; exact ⟨rfl, rfl⟩) dX11_readWho_39
    · have h := Sat_pos c21 h
      refine r_aload_n dX11_readWho_24 1 rfl ?_
      refine r_iconst (v := 5) dX11_readWho_25 (by decide) ?_
      obtain ⟨x26, e26, h⟩ := Sat_bind h
      refine r_cV (t := 12) [.int (5 : Int32)] [] (m_X11_fails a0 (5 : Int32) μ e26) ck_X11_fails lk_X11_214 in_X11_fails se_X11_fails (kd_of e26) ⟨rfl, by decide, by decide⟩ rfl rfl (Nat.le_of_ble_eq_true rfl) ⟨by decide, by decide⟩ ⟨Nat.zero_le _, Nat.zero_le _⟩ dX11_readWho_26 ?_
      obtain ⟨hz, h⟩ := Sat_ifp h
      exact r_zreturn rfl hz (by rw [← Sat_eq h]; exact ⟨rfl, rfl⟩) dX11_readWho_29
  · have h := Sat_neg c5 h
    refine r_aload_n dX11_readWho_8 0 rfl ?_
    refine r_iconst (v := 1) dX11_readWho_9 (by decide) ?_
    obtain ⟨x10, e10, h⟩ := Sat_bind h
    refine r_cV (t := 12) [.int (1 : Int32)] [] (m_X11_fails a0 (1 : Int32) μ e10) ck_X11_fails lk_X11_214 in_X11_fails se_X11_fails (kd_of e10) ⟨rfl, by decide, by decide⟩ rfl rfl (Nat.le_of_ble_eq_true rfl) ⟨by decide, by decide⟩ ⟨Nat.zero_le _, Nat.zero_le _⟩ dX11_readWho_10 ?_
    obtain ⟨hz, h⟩ := Sat_ifp h
    exact r_zreturn rfl hz (by rw [← Sat_eq h]; exact ⟨rfl, rfl⟩) dX11_readWho_13
theorem dX11_readByPerson_0 : decode cX11_readByPerson 0 = .ok (.iload_n 1, 1) := by decide +kernel
theorem dX11_readByPerson_1 : decode cX11_readByPerson 1 = .ok (.iconst 2, 1) := by decide +kernel
theorem dX11_readByPerson_2 : decode cX11_readByPerson 2 = .ok (.if_icmp .ne 7, 3) := by decide +kernel
theorem dX11_readByPerson_5 : decode cX11_readByPerson 5 = .ok (.iconst 1, 1) := by decide +kernel
theorem dX11_readByPerson_6 : decode cX11_readByPerson 6 = .ok (.goto 14, 3) := by decide +kernel
theorem dX11_readByPerson_9 : decode cX11_readByPerson 9 = .ok (.iload_n 1, 1) := by decide +kernel
theorem dX11_readByPerson_10 : decode cX11_readByPerson 10 = .ok (.iconst 4, 1) := by decide +kernel
theorem dX11_readByPerson_11 : decode cX11_readByPerson 11 = .ok (.if_icmp .ne 7, 3) := by decide +kernel
theorem dX11_readByPerson_14 : decode cX11_readByPerson 14 = .ok (.iconst 3, 1) := by decide +kernel
theorem dX11_readByPerson_15 : decode cX11_readByPerson 15 = .ok (.goto 5, 3) := by decide +kernel
theorem dX11_readByPerson_18 : decode cX11_readByPerson 18 = .ok (.bipush 6, 2) := by decide +kernel
theorem dX11_readByPerson_20 : decode cX11_readByPerson 20 = .ok (.istore_n 2, 1) := by decide +kernel
theorem dX11_readByPerson_21 : decode cX11_readByPerson 21 = .ok (.iload_n 1, 1) := by decide +kernel
theorem dX11_readByPerson_22 : decode cX11_readByPerson 22 = .ok (.iconst 2, 1) := by decide +kernel
theorem dX11_readByPerson_23 : decode cX11_readByPerson 23 = .ok (.if_icmp .ne 8, 3) := by decide +kernel
theorem dX11_readByPerson_26 : decode cX11_readByPerson 26 = .ok (.bipush 12, 2) := by decide +kernel
theorem dX11_readByPerson_28 : decode cX11_readByPerson 28 = .ok (.goto 15, 3) := by decide +kernel
theorem dX11_readByPerson_31 : decode cX11_readByPerson 31 = .ok (.iload_n 1, 1) := by decide +kernel
theorem dX11_readByPerson_32 : decode cX11_readByPerson 32 = .ok (.iconst 4, 1) := by decide +kernel
theorem dX11_readByPerson_33 : decode cX11_readByPerson 33 = .ok (.if_icmp .ne 8, 3) := by decide +kernel
theorem dX11_readByPerson_36 : decode cX11_readByPerson 36 = .ok (.bipush 8, 2) := by decide +kernel
theorem dX11_readByPerson_38 : decode cX11_readByPerson 38 = .ok (.goto 5, 3) := by decide +kernel
theorem dX11_readByPerson_41 : decode cX11_readByPerson 41 = .ok (.bipush 8, 2) := by decide +kernel
theorem dX11_readByPerson_43 : decode cX11_readByPerson 43 = .ok (.istore_n 3, 1) := by decide +kernel
theorem dX11_readByPerson_44 : decode cX11_readByPerson 44 = .ok (.aload_n 0, 1) := by decide +kernel
theorem dX11_readByPerson_45 : decode cX11_readByPerson 45 = .ok (.getfield 17, 3) := by decide +kernel
theorem dX11_readByPerson_48 : decode cX11_readByPerson 48 = .ok (.bipush 11, 2) := by decide +kernel
theorem dX11_readByPerson_50 : decode cX11_readByPerson 50 = .ok (.iload_n 2, 1) := by decide +kernel
theorem dX11_readByPerson_51 : decode cX11_readByPerson 51 = .ok (.iadd, 1) := by decide +kernel
theorem dX11_readByPerson_52 : decode cX11_readByPerson 52 = .ok (.iaload, 1) := by decide +kernel
theorem dX11_readByPerson_53 : decode cX11_readByPerson 53 = .ok (.istore 4, 2) := by decide +kernel
theorem dX11_readByPerson_55 : decode cX11_readByPerson 55 = .ok (.iload 4, 2) := by decide +kernel
theorem dX11_readByPerson_57 : decode cX11_readByPerson 57 = .ok (.iload_n 3, 1) := by decide +kernel
theorem dX11_readByPerson_58 : decode cX11_readByPerson 58 = .ok (.if_icmp .ne 9, 3) := by decide +kernel
theorem dX11_readByPerson_61 : decode cX11_readByPerson 61 = .ok (.aload_n 0, 1) := by decide +kernel
theorem dX11_readByPerson_62 : decode cX11_readByPerson 62 = .ok (.iconst 4, 1) := by decide +kernel
theorem dX11_readByPerson_63 : decode cX11_readByPerson 63 = .ok (.invokevirtual 214, 3) := by decide +kernel
theorem dX11_readByPerson_66 : decode cX11_readByPerson 66 = .ok (.ireturn, 1) := by decide +kernel
theorem dX11_readByPerson_67 : decode cX11_readByPerson 67 = .ok (.aload_n 0, 1) := by decide +kernel
theorem dX11_readByPerson_68 : decode cX11_readByPerson 68 = .ok (.invokevirtual 224, 3) := by decide +kernel
theorem dX11_readByPerson_71 : decode cX11_readByPerson 71 = .ok (.iload_n 1, 1) := by decide +kernel
theorem dX11_readByPerson_72 : decode cX11_readByPerson 72 = .ok (.iconst 2, 1) := by decide +kernel
theorem dX11_readByPerson_73 : decode cX11_readByPerson 73 = .ok (.if_icmp .ne 48, 3) := by decide +kernel
theorem dX11_readByPerson_76 : decode cX11_readByPerson 76 = .ok (.aload_n 0, 1) := by decide +kernel
theorem dX11_readByPerson_77 : decode cX11_readByPerson 77 = .ok (.aload_n 0, 1) := by decide +kernel
theorem dX11_readByPerson_78 : decode cX11_readByPerson 78 = .ok (.getfield 28, 3) := by decide +kernel
theorem dX11_readByPerson_81 : decode cX11_readByPerson 81 = .ok (.bipush 12, 2) := by decide +kernel
theorem dX11_readByPerson_83 : decode cX11_readByPerson 83 = .ok (.iload 4, 2) := by decide +kernel
theorem dX11_readByPerson_85 : decode cX11_readByPerson 85 = .ok (.iadd, 1) := by decide +kernel
theorem dX11_readByPerson_86 : decode cX11_readByPerson 86 = .ok (.invokevirtual 270, 3) := by decide +kernel
theorem dX11_readByPerson_89 : decode cX11_readByPerson 89 = .ok (.ifCond .eq 26, 3) := by decide +kernel
theorem dX11_readByPerson_92 : decode cX11_readByPerson 92 = .ok (.aload_n 0, 1) := by decide +kernel
theorem dX11_readByPerson_93 : decode cX11_readByPerson 93 = .ok (.aload_n 0, 1) := by decide +kernel
theorem dX11_readByPerson_94 : decode cX11_readByPerson 94 = .ok (.getfield 31, 3) := by decide +kernel
theorem dX11_readByPerson_97 : decode cX11_readByPerson 97 = .ok (.bipush 12, 2) := by decide +kernel
theorem dX11_readByPerson_99 : decode cX11_readByPerson 99 = .ok (.iload 4, 2) := by decide +kernel
theorem dX11_readByPerson_101 : decode cX11_readByPerson 101 = .ok (.iadd, 1) := by decide +kernel
theorem dX11_readByPerson_102 : decode cX11_readByPerson 102 = .ok (.iconst 0, 1) := by decide +kernel
theorem dX11_readByPerson_103 : decode cX11_readByPerson 103 = .ok (.bipush 27, 2) := by decide +kernel
theorem dX11_readByPerson_105 : decode cX11_readByPerson 105 = .ok (.invokevirtual 274, 3) := by decide +kernel
theorem dX11_readByPerson_108 : decode cX11_readByPerson 108 = .ok (.ifCond .eq 7, 3) := by decide +kernel
theorem dX11_readByPerson_111 : decode cX11_readByPerson 111 = .ok (.iconst 1, 1) := by decide +kernel
theorem dX11_readByPerson_112 : decode cX11_readByPerson 112 = .ok (.goto 4, 3) := by decide +kernel
theorem dX11_readByPerson_115 : decode cX11_readByPerson 115 = .ok (.iconst 0, 1) := by decide +kernel
theorem dX11_readByPerson_116 : decode cX11_readByPerson 116 = .ok (.istore 5, 2) := by decide +kernel
theorem dX11_readByPerson_118 : decode cX11_readByPerson 118 = .ok (.goto 123, 3) := by decide +kernel
theorem dX11_readByPerson_121 : decode cX11_readByPerson 121 = .ok (.iload_n 1, 1) := by decide +kernel
theorem dX11_readByPerson_122 : decode cX11_readByPerson 122 = .ok (.iconst 4, 1) := by decide +kernel
theorem dX11_readByPerson_123 : decode cX11_readByPerson 123 = .ok (.if_icmp .ne 48, 3) := by decide +kernel
theorem dX11_readByPerson_126 : decode cX11_readByPerson 126 = .ok (.aload_n 0, 1) := by decide +kernel
theorem dX11_readByPerson_127 : decode cX11_readByPerson 127 = .ok (.aload_n 0, 1) := by decide +kernel
theorem dX11_readByPerson_128 : decode cX11_readByPerson 128 = .ok (.getfield 43, 3) := by decide +kernel
theorem dX11_readByPerson_131 : decode cX11_readByPerson 131 = .ok (.bipush 8, 2) := by decide +kernel
theorem dX11_readByPerson_133 : decode cX11_readByPerson 133 = .ok (.iload 4, 2) := by decide +kernel
theorem dX11_readByPerson_135 : decode cX11_readByPerson 135 = .ok (.iadd, 1) := by decide +kernel
theorem dX11_readByPerson_136 : decode cX11_readByPerson 136 = .ok (.invokevirtual 270, 3) := by decide +kernel
theorem dX11_readByPerson_139 : decode cX11_readByPerson 139 = .ok (.ifCond .eq 26, 3) := by decide +kernel
theorem dX11_readByPerson_142 : decode cX11_readByPerson 142 = .ok (.aload_n 0, 1) := by decide +kernel
theorem dX11_readByPerson_143 : decode cX11_readByPerson 143 = .ok (.aload_n 0, 1) := by decide +kernel
theorem dX11_readByPerson_144 : decode cX11_readByPerson 144 = .ok (.getfield 46, 3) := by decide +kernel
theorem dX11_readByPerson_147 : decode cX11_readByPerson 147 = .ok (.bipush 8, 2) := by decide +kernel
theorem dX11_readByPerson_149 : decode cX11_readByPerson 149 = .ok (.iload 4, 2) := by decide +kernel
theorem dX11_readByPerson_151 : decode cX11_readByPerson 151 = .ok (.iadd, 1) := by decide +kernel
theorem dX11_readByPerson_152 : decode cX11_readByPerson 152 = .ok (.iconst 0, 1) := by decide +kernel
theorem dX11_readByPerson_153 : decode cX11_readByPerson 153 = .ok (.bipush 27, 2) := by decide +kernel
theorem dX11_readByPerson_155 : decode cX11_readByPerson 155 = .ok (.invokevirtual 274, 3) := by decide +kernel
theorem dX11_readByPerson_158 : decode cX11_readByPerson 158 = .ok (.ifCond .eq 7, 3) := by decide +kernel
theorem dX11_readByPerson_161 : decode cX11_readByPerson 161 = .ok (.iconst 1, 1) := by decide +kernel
theorem dX11_readByPerson_162 : decode cX11_readByPerson 162 = .ok (.goto 4, 3) := by decide +kernel
theorem dX11_readByPerson_165 : decode cX11_readByPerson 165 = .ok (.iconst 0, 1) := by decide +kernel
theorem dX11_readByPerson_166 : decode cX11_readByPerson 166 = .ok (.istore 5, 2) := by decide +kernel
theorem dX11_readByPerson_168 : decode cX11_readByPerson 168 = .ok (.goto 73, 3) := by decide +kernel
theorem dX11_readByPerson_171 : decode cX11_readByPerson 171 = .ok (.aload_n 0, 1) := by decide +kernel
theorem dX11_readByPerson_172 : decode cX11_readByPerson 172 = .ok (.aload_n 0, 1) := by decide +kernel
theorem dX11_readByPerson_173 : decode cX11_readByPerson 173 = .ok (.getfield 49, 3) := by decide +kernel
theorem dX11_readByPerson_176 : decode cX11_readByPerson 176 = .ok (.bipush 8, 2) := by decide +kernel
theorem dX11_readByPerson_178 : decode cX11_readByPerson 178 = .ok (.iload 4, 2) := by decide +kernel
theorem dX11_readByPerson_180 : decode cX11_readByPerson 180 = .ok (.iadd, 1) := by decide +kernel
theorem dX11_readByPerson_181 : decode cX11_readByPerson 181 = .ok (.invokevirtual 270, 3) := by decide +kernel
theorem dX11_readByPerson_184 : decode cX11_readByPerson 184 = .ok (.ifCond .eq 54, 3) := by decide +kernel
theorem dX11_readByPerson_187 : decode cX11_readByPerson 187 = .ok (.aload_n 0, 1) := by decide +kernel
theorem dX11_readByPerson_188 : decode cX11_readByPerson 188 = .ok (.aload_n 0, 1) := by decide +kernel
theorem dX11_readByPerson_189 : decode cX11_readByPerson 189 = .ok (.getfield 52, 3) := by decide +kernel
theorem dX11_readByPerson_192 : decode cX11_readByPerson 192 = .ok (.bipush 8, 2) := by decide +kernel
theorem dX11_readByPerson_194 : decode cX11_readByPerson 194 = .ok (.iload 4, 2) := by decide +kernel
theorem dX11_readByPerson_196 : decode cX11_readByPerson 196 = .ok (.iadd, 1) := by decide +kernel
theorem dX11_readByPerson_197 : decode cX11_readByPerson 197 = .ok (.iconst 0, 1) := by decide +kernel
theorem dX11_readByPerson_198 : decode cX11_readByPerson 198 = .ok (.bipush 27, 2) := by decide +kernel
theorem dX11_readByPerson_200 : decode cX11_readByPerson 200 = .ok (.invokevirtual 274, 3) := by decide +kernel
theorem dX11_readByPerson_203 : decode cX11_readByPerson 203 = .ok (.ifCond .eq 35, 3) := by decide +kernel
theorem dX11_readByPerson_206 : decode cX11_readByPerson 206 = .ok (.aload_n 0, 1) := by decide +kernel
theorem dX11_readByPerson_207 : decode cX11_readByPerson 207 = .ok (.aload_n 0, 1) := by decide +kernel
theorem dX11_readByPerson_208 : decode cX11_readByPerson 208 = .ok (.getfield 55, 3) := by decide +kernel
theorem dX11_readByPerson_211 : decode cX11_readByPerson 211 = .ok (.bipush 8, 2) := by decide +kernel
theorem dX11_readByPerson_213 : decode cX11_readByPerson 213 = .ok (.iload 4, 2) := by decide +kernel
theorem dX11_readByPerson_215 : decode cX11_readByPerson 215 = .ok (.iadd, 1) := by decide +kernel
theorem dX11_readByPerson_216 : decode cX11_readByPerson 216 = .ok (.aload_n 0, 1) := by decide +kernel
theorem dX11_readByPerson_217 : decode cX11_readByPerson 217 = .ok (.getfield 52, 3) := by decide +kernel
theorem dX11_readByPerson_220 : decode cX11_readByPerson 220 = .ok (.bipush 8, 2) := by decide +kernel
theorem dX11_readByPerson_222 : decode cX11_readByPerson 222 = .ok (.iload 4, 2) := by decide +kernel
theorem dX11_readByPerson_224 : decode cX11_readByPerson 224 = .ok (.iadd, 1) := by decide +kernel
theorem dX11_readByPerson_225 : decode cX11_readByPerson 225 = .ok (.iaload, 1) := by decide +kernel
theorem dX11_readByPerson_226 : decode cX11_readByPerson 226 = .ok (.bipush 27, 2) := by decide +kernel
theorem dX11_readByPerson_228 : decode cX11_readByPerson 228 = .ok (.invokevirtual 274, 3) := by decide +kernel
theorem dX11_readByPerson_231 : decode cX11_readByPerson 231 = .ok (.ifCond .eq 7, 3) := by decide +kernel
theorem dX11_readByPerson_234 : decode cX11_readByPerson 234 = .ok (.iconst 1, 1) := by decide +kernel
theorem dX11_readByPerson_235 : decode cX11_readByPerson 235 = .ok (.goto 4, 3) := by decide +kernel
theorem dX11_readByPerson_238 : decode cX11_readByPerson 238 = .ok (.iconst 0, 1) := by decide +kernel
theorem dX11_readByPerson_239 : decode cX11_readByPerson 239 = .ok (.istore 5, 2) := by decide +kernel
theorem dX11_readByPerson_241 : decode cX11_readByPerson 241 = .ok (.iload 5, 2) := by decide +kernel
theorem dX11_readByPerson_243 : decode cX11_readByPerson 243 = .ok (.ifCond .eq 16, 3) := by decide +kernel
theorem dX11_readByPerson_246 : decode cX11_readByPerson 246 = .ok (.aload_n 0, 1) := by decide +kernel
theorem dX11_readByPerson_247 : decode cX11_readByPerson 247 = .ok (.getfield 17, 3) := by decide +kernel
theorem dX11_readByPerson_250 : decode cX11_readByPerson 250 = .ok (.bipush 11, 2) := by decide +kernel
theorem dX11_readByPerson_252 : decode cX11_readByPerson 252 = .ok (.iload_n 2, 1) := by decide +kernel
theorem dX11_readByPerson_253 : decode cX11_readByPerson 253 = .ok (.iadd, 1) := by decide +kernel
theorem dX11_readByPerson_254 : decode cX11_readByPerson 254 = .ok (.dup2, 1) := by decide +kernel
theorem dX11_readByPerson_255 : decode cX11_readByPerson 255 = .ok (.iaload, 1) := by decide +kernel
theorem dX11_readByPerson_256 : decode cX11_readByPerson 256 = .ok (.iconst 1, 1) := by decide +kernel
theorem dX11_readByPerson_257 : decode cX11_readByPerson 257 = .ok (.iadd, 1) := by decide +kernel
theorem dX11_readByPerson_258 : decode cX11_readByPerson 258 = .ok (.iastore, 1) := by decide +kernel
theorem dX11_readByPerson_259 : decode cX11_readByPerson 259 = .ok (.iload 5, 2) := by decide +kernel
theorem dX11_readByPerson_261 : decode cX11_readByPerson 261 = .ok (.ireturn, 1) := by decide +kernel
noncomputable def f_X11_readByPerson_J241 (a0 : Nat) (l2 : Int32) (l5 : Int32) (μ : Mm) : Option (Int32 × Mm) :=
  if l5 = 0 then if l5 = 0 ∨ l5 = 1 then some (l5, μ) else none else (gf_P 12 12 a0 μ).bind fun x247 => (ga_I x247 ((11 : Int32) + l2) μ).bind fun x255 => (pa_I x247 ((11 : Int32) + l2) (x255 + (1 : Int32)) μ).bind fun μ258 => if l5 = 0 ∨ l5 = 1 then some (l5, μ258) else none
noncomputable def f_X11_readByPerson_J239 (a0 : Nat) (l2 : Int32) (k0 : Int32) (μ : Mm) : Option (Int32 × Mm) :=
  f_X11_readByPerson_J241 a0 l2 k0 μ
noncomputable def f_X11_readByPerson_J238 (a0 : Nat) (l2 : Int32) (μ : Mm) : Option (Int32 × Mm) :=
  f_X11_readByPerson_J239 a0 l2 (0 : Int32) μ
noncomputable def f_X11_readByPerson_J166 (a0 : Nat) (l2 : Int32) (k0 : Int32) (μ : Mm) : Option (Int32 × Mm) :=
  f_X11_readByPerson_J241 a0 l2 k0 μ
noncomputable def f_X11_readByPerson_J165 (a0 : Nat) (l2 : Int32) (μ : Mm) : Option (Int32 × Mm) :=
  f_X11_readByPerson_J166 a0 l2 (0 : Int32) μ
noncomputable def f_X11_readByPerson_J116 (a0 : Nat) (l2 : Int32) (k0 : Int32) (μ : Mm) : Option (Int32 × Mm) :=
  f_X11_readByPerson_J241 a0 l2 k0 μ
noncomputable def f_X11_readByPerson_J115 (a0 : Nat) (l2 : Int32) (μ : Mm) : Option (Int32 × Mm) :=
  f_X11_readByPerson_J116 a0 l2 (0 : Int32) μ
noncomputable def f_X11_readByPerson_J43 (a0 : Nat) (l1 : Int32) (l2 : Int32) (k0 : Int32) (μ : Mm) : Option (Int32 × Mm) :=
  (gf_P 12 12 a0 μ).bind fun x45 => (ga_I x45 ((11 : Int32) + l2) μ).bind fun x52 => if x52 = k0 then (f_X11_fails a0 (4 : Int32) μ).bind fun x63 => if x63.1 = 0 ∨ x63.1 = 1 then some (x63.1, x63.2) else none else (f_X11_scan a0 μ).bind fun x68 => if l1 = (2 : Int32) then (gf_P 12 15 a0 x68).bind fun x78 => (f_X11_readWho a0 x78 ((12 : Int32) + x52) x68).bind fun x86 => if x86.1 = 0 then f_X11_readByPerson_J115 a0 l2 x86.2 else (gf_P 12 16 a0 x86.2).bind fun x94 => (f_X11_readInto a0 x94 ((12 : Int32) + x52) (0 : Int32) (27 : Int32) x86.2).bind fun x105 => if x105.1 = 0 then f_X11_readByPerson_J115 a0 l2 x105.2 else f_X11_readByPerson_J116 a0 l2 (1 : Int32) x105.2 else if l1 = (4 : Int32) then (gf_P 12 20 a0 x68).bind fun x128 => (f_X11_readWho a0 x128 ((8 : Int32) + x52) x68).bind fun x136 => if x136.1 = 0 then f_X11_readByPerson_J165 a0 l2 x136.2 else (gf_P 12 21 a0 x136.2).bind fun x144 => (f_X11_readInto a0 x144 ((8 : Int32) + x52) (0 : Int32) (27 : Int32) x136.2).bind fun x155 => if x155.1 = 0 then f_X11_readByPerson_J165 a0 l2 x155.2 else f_X11_readByPerson_J166 a0 l2 (1 : Int32) x155.2 else (gf_P 12 22 a0 x68).bind fun x173 => (f_X11_readWho a0 x173 ((8 : Int32) + x52) x68).bind fun x181 => if x181.1 = 0 then f_X11_readByPerson_J238 a0 l2 x181.2 else (gf_P 12 23 a0 x181.2).bind fun x189 => (f_X11_readInto a0 x189 ((8 : Int32) + x52) (0 : Int32) (27 : Int32) x181.2).bind fun x200 => if x200.1 = 0 then f_X11_readByPerson_J238 a0 l2 x200.2 else (gf_P 12 24 a0 x200.2).bind fun x208 => (gf_P 12 23 a0 x200.2).bind fun x217 => (ga_I x217 ((8 : Int32) + x52) x200.2).bind fun x225 => (f_X11_readInto a0 x208 ((8 : Int32) + x52) x225 (27 : Int32) x200.2).bind fun x228 => if x228.1 = 0 then f_X11_readByPerson_J238 a0 l2 x228.2 else f_X11_readByPerson_J239 a0 l2 (1 : Int32) x228.2
noncomputable def f_X11_readByPerson_J20 (a0 : Nat) (l1 : Int32) (k0 : Int32) (μ : Mm) : Option (Int32 × Mm) :=
  if l1 = (2 : Int32) then f_X11_readByPerson_J43 a0 l1 k0 (12 : Int32) μ else if l1 = (4 : Int32) then f_X11_readByPerson_J43 a0 l1 k0 (8 : Int32) μ else f_X11_readByPerson_J43 a0 l1 k0 (8 : Int32) μ
noncomputable def f_X11_readByPerson (a0 : Nat) (l1 : Int32) (μ : Mm) : Option (Int32 × Mm) :=
  if (mm_K μ a0).1 = 12 then if l1 = (2 : Int32) then f_X11_readByPerson_J20 a0 l1 (1 : Int32) μ else if l1 = (4 : Int32) then f_X11_readByPerson_J20 a0 l1 (3 : Int32) μ else f_X11_readByPerson_J20 a0 l1 (6 : Int32) μ else none
abbrev Rn_X11_readByPerson (G : Gv) (Q : Option Value → Mm → Prop) (pc : Nat) (lv : List (Nat × Value)) (st : List Value) (μ : Mm) : Prop := Rn G RX11 cX11_readByPerson 6 (some .boolean) "readByPerson" (rmd 8 0 0) (Zm G 0 0 Q) 0 0 pc lv st μ
set_option maxRecDepth 100000 in
set_option maxHeartbeats 4000000 in
theorem m_X11_readByPerson {G : Gv} (a0 : Nat) (l1 : Int32) (μ : Mm) {r : (Int32 × Mm)} (hx : f_X11_readByPerson a0 l1 μ = some r) : Mt G yX11_readByPerson cX11_readByPerson 6 (some .boolean) 8 0 0 [.ref a0, .int l1] μ (fun v μ' => v = some (.int r.1) ∧ μ' = r.2) := by
  refine Mt.of (by decide) (Nat.le_of_ble_eq_true rfl) ?_
  show Rn_X11_readByPerson G (fun v μ' => v = some (.int r.1) ∧ μ' = r.2) 0 [(0, .ref a0), (1, .int l1)] [] μ
  obtain ⟨_, h⟩ := Sat_ifp (show Sat (f_X11_readByPerson a0 l1 μ) (fun x => x = r) from ⟨_, hx, rfl⟩)
  have J241 : ∀ (a0_241 : Nat) (l2_241 : Int32) (l5_241 : Int32) (μ_241 : Mm), Sat (f_X11_readByPerson_J241 a0_241 l2_241 l5_241 μ_241) (fun x => x = r) → Rn_X11_readByPerson G (fun v μ' => v = some (.int r.1) ∧ μ' = r.2) 241 [(0, .ref a0_241), (2, .int l2_241), (5, .int l5_241)] [] μ_241 := by
    intro a0_241 l2_241 l5_241 μ_241 h
    refine r_iload dX11_readByPerson_241 2 rfl ?_
    refine r_if_eq 259 dX11_readByPerson_243 (by decide) (fun c243 => ?_) (fun c243 => ?_)
    · have h := Sat_pos c243 h
      refine r_iload dX11_readByPerson_259 2 rfl ?_
      obtain ⟨hz, h⟩ := Sat_ifp h
      exact r_zreturn rfl hz (by rw [← Sat_eq h]; exact ⟨rfl, rfl⟩) dX11_readByPerson_261
    · have h := Sat_neg c243 h
      refine r_aload_n dX11_readByPerson_246 0 rfl ?_
      obtain ⟨x247, e247, h⟩ := Sat_bind h
      refine r_getP fk_X11_17 rfl e247 dX11_readByPerson_247 ?_
      refine r_bipush (v := 11) dX11_readByPerson_250 (by decide) ?_
      refine r_iload_n dX11_readByPerson_252 1 rfl ?_
      refine r_iadd dX11_readByPerson_253 ?_
      refine r_dup2_11 dX11_readByPerson_254 rfl rfl ?_
      obtain ⟨x255, e255, h⟩ := Sat_bind h
      refine r_iaload e255 dX11_readByPerson_255 ?_
      refine r_iconst (v := 1) dX11_readByPerson_256 (by decide) ?_
      refine r_iadd dX11_readByPerson_257 ?_
      obtain ⟨μ258, e258, h⟩ := Sat_bind h
      refine r_iastore e258 dX11_readByPerson_258 ?_
      refine r_iload dX11_readByPerson_259 2 rfl ?_
      obtain ⟨hz, h⟩ := Sat_ifp h
      exact r_zreturn rfl hz (by rw [← Sat_eq h]; exact ⟨rfl, rfl⟩) dX11_readByPerson_261
  have J239 : ∀ (a0_239 : Nat) (l2_239 : Int32) (k0_239 : Int32) (μ_239 : Mm), Sat (f_X11_readByPerson_J239 a0_239 l2_239 k0_239 μ_239) (fun x => x = r) → Rn_X11_readByPerson G (fun v μ' => v = some (.int r.1) ∧ μ' = r.2) 239 [(0, .ref a0_239), (2, .int l2_239)] [.int k0_239] μ_239 := by
    intro a0_239 l2_239 k0_239 μ_239 h
    refine r_istore (lv' := [(5, .int k0_239), (0, .ref a0_239), (2, .int l2_239)]) dX11_readByPerson_239 (by decide) rfl ?_
    exact r_sub [1, 2, 0] rfl (J241 a0_239 l2_239 k0_239 μ_239 h)
  have J238 : ∀ (a0_238 : Nat) (l2_238 : Int32) (μ_238 : Mm), Sat (f_X11_readByPerson_J238 a0_238 l2_238 μ_238) (fun x => x = r) → Rn_X11_readByPerson G (fun v μ' => v = some (.int r.1) ∧ μ' = r.2) 238 [(0, .ref a0_238), (2, .int l2_238)] [] μ_238 := by
    intro a0_238 l2_238 μ_238 h
    refine r_iconst (v := 0) dX11_readByPerson_238 (by decide) ?_
    exact r_sub [0, 1] rfl (J239 a0_238 l2_238 (0 : Int32) μ_238 h)
  have J166 : ∀ (a0_166 : Nat) (l2_166 : Int32) (k0_166 : Int32) (μ_166 : Mm), Sat (f_X11_readByPerson_J166 a0_166 l2_166 k0_166 μ_166) (fun x => x = r) → Rn_X11_readByPerson G (fun v μ' => v = some (.int r.1) ∧ μ' = r.2) 166 [(0, .ref a0_166), (2, .int l2_166)] [.int k0_166] μ_166 := by
    intro a0_166 l2_166 k0_166 μ_166 h
    refine r_istore (lv' := [(5, .int k0_166), (0, .ref a0_166), (2, .int l2_166)]) dX11_readByPerson_166 (by decide) rfl ?_
    refine r_goto 241 dX11_readByPerson_168 (by decide) ?_
    exact r_sub [1, 2, 0] rfl (J241 a0_166 l2_166 k0_166 μ_166 h)
  have J165 : ∀ (a0_165 : Nat) (l2_165 : Int32) (μ_165 : Mm), Sat (f_X11_readByPerson_J165 a0_165 l2_165 μ_165) (fun x => x = r) → Rn_X11_readByPerson G (fun v μ' => v = some (.int r.1) ∧ μ' = r.2) 165 [(0, .ref a0_165), (2, .int l2_165)] [] μ_165 := by
    intro a0_165 l2_165 μ_165 h
    refine r_iconst (v := 0) dX11_readByPerson_165 (by decide) ?_
    exact r_sub [0, 1] rfl (J166 a0_165 l2_165 (0 : Int32) μ_165 h)
  have J116 : ∀ (a0_116 : Nat) (l2_116 : Int32) (k0_116 : Int32) (μ_116 : Mm), Sat (f_X11_readByPerson_J116 a0_116 l2_116 k0_116 μ_116) (fun x => x = r) → Rn_X11_readByPerson G (fun v μ' => v = some (.int r.1) ∧ μ' = r.2) 116 [(0, .ref a0_116), (2, .int l2_116)] [.int k0_116] μ_116 := by
    intro a0_116 l2_116 k0_116 μ_116 h
    refine r_istore (lv' := [(5, .int k0_116), (0, .ref a0_116), (2, .int l2_116)]) dX11_readByPerson_116 (by decide) rfl ?_
    refine r_goto 241 dX11_readByPerson_118 (by decide) ?_
    exact r_sub [1, 2, 0] rfl (J241 a0_116 l2_116 k0_116 μ_116 h)
  have J115 : ∀ (a0_115 : Nat) (l2_115 : Int32) (μ_115 : Mm), Sat (f_X11_readByPerson_J115 a0_115 l2_115 μ_115) (fun x => x = r) → Rn_X11_readByPerson G (fun v μ' => v = some (.int r.1) ∧ μ' = r.2) 115 [(0, .ref a0_115), (2, .int l2_115)] [] μ_115 := by
    intro a0_115 l2_115 μ_115 h
    refine r_iconst (v := 0) dX11_readByPerson_115 (by decide) ?_
    exact r_sub [0, 1] rfl (J116 a0_115 l2_115 (0 : Int32) μ_115 h)
  have J43 : ∀ (a0_43 : Nat) (l1_43 : Int32) (l2_43 : Int32) (k0_43 : Int32) (μ_43 : Mm), Sat (f_X11_readByPerson_J43 a0_43 l1_43 l2_43 k0_43 μ_43) (fun x => x = r) → Rn_X11_readByPerson G (fun v μ' => v = some (.int r.1) ∧ μ' = r.2) 43 [(0, .ref a0_43), (1, .int l1_43), (2, .int l2_43)] [.int k0_43] μ_43 := by
    intro a0_43 l1_43 l2_43 k0_43 μ_43 h
    refine r_istore_n (lv' := [(3, .int k0_43), (0, .ref a0_43), (1, .int l1_43), (2, .int l2_43)]) dX11_readByPerson_43 rfl (by decide) rfl ?_
    refine r_aload_n dX11_readByPerson_44 1 rfl ?_
    obtain ⟨x45, e45, h⟩ := Sat_bind h
    refine r_getP fk_X11_17 rfl e45 dX11_readByPerson_45 ?_
    refine r_bipush (v := 11) dX11_readByPerson_48 (by decide) ?_
    refine r_iload_n dX11_readByPerson_50 3 rfl ?_
    refine r_iadd dX11_readByPerson_51 ?_
    obtain ⟨x52, e52, h⟩ := Sat_bind h
    refine r_iaload e52 dX11_readByPerson_52 ?_
    refine r_istore (lv' := [(4, .int x52), (3, .int k0_43), (0, .ref a0_43), (1, .int l1_43), (2, .int l2_43)]) dX11_readByPerson_53 (by decide) rfl ?_
    refine r_iload dX11_readByPerson_55 0 rfl ?_
    refine r_iload_n dX11_readByPerson_57 1 rfl ?_
    refine r_icmp_ne 67 dX11_readByPerson_58 (by decide) (fun c58 => ?_) (fun c58 => ?_)
    · have h := Sat_neg c58 h
      refine r_aload_n dX11_readByPerson_67 2 rfl ?_
      obtain ⟨x68, e68, h⟩ := Sat_bind h
      refine r_cV (t := 12) [] [] (m_X11_scan a0_43 μ_43 e68) ck_X11_scan lk_X11_224 in_X11_scan se_X11_scan (kd_of e68) ⟨rfl, by decide, by decide⟩ rfl rfl (Nat.le_of_ble_eq_true rfl) ⟨by decide, by decide⟩ ⟨Nat.zero_le _, Nat.zero_le _⟩ dX11_readByPerson_68 ?_
      refine r_iload_n dX11_readByPerson_71 3 rfl ?_
      refine r_iconst (v := 2) dX11_readByPerson_72 (by decide) ?_
      refine r_icmp_ne 121 dX11_readByPerson_73 (by decide) (fun c73 => ?_) (fun c73 => ?_)
      · have h := Sat_neg c73 h
        refine r_iload_n dX11_readByPerson_121 3 rfl ?_
        refine r_iconst (v := 4) dX11_readByPerson_122 (by decide) ?_
        refine r_icmp_ne 171 dX11_readByPerson_123 (by decide) (fun c123 => ?_) (fun c123 => ?_)
        · have h := Sat_neg c123 h
          refine r_aload_n dX11_readByPerson_171 2 rfl ?_
          refine r_aload_n dX11_readByPerson_172 2 rfl ?_
          obtain ⟨x173, e173, h⟩ := Sat_bind h
          refine r_getP fk_X11_49 rfl e173 dX11_readByPerson_173 ?_
          refine r_bipush (v := 8) dX11_readByPerson_176 (by decide) ?_
          refine r_iload dX11_readByPerson_178 0 rfl ?_
          refine r_iadd dX11_readByPerson_180 ?_
          obtain ⟨x181, e181, h⟩ := Sat_bind h
          refine r_cV (t := 12) [.ref x173, .int ((8 : Int32) + x52)] [] (m_X11_readWho a0_43 x173 ((8 : Int32) + x52) x68 e181) ck_X11_readWho lk_X11_270 in_X11_readWho se_X11_readWho (kd_of e181) ⟨rfl, by decide, by decide⟩ rfl rfl (Nat.le_of_ble_eq_true rfl) ⟨by decide, by decide⟩ ⟨Nat.zero_le _, Nat.zero_le _⟩ dX11_readByPerson_181 ?_
          refine r_if_eq 238 dX11_readByPerson_184 (by decide) (fun c184 => ?_) (fun c184 => ?_)
          · have h := Sat_pos c184 h
            exact r_sub [2, 4] rfl (J238 a0_43 l2_43 x181.2 h)
          · have h := Sat_neg c184 h
            refine r_aload_n dX11_readByPerson_187 2 rfl ?_
            refine r_aload_n dX11_readByPerson_188 2 rfl ?_
            obtain ⟨x189, e189, h⟩ := Sat_bind h
            refine r_getP fk_X11_52 rfl e189 dX11_readByPerson_189 ?_
            refine r_bipush (v := 8) dX11_readByPerson_192 (by decide) ?_
            refine r_iload dX11_readByPerson_194 0 rfl ?_
            refine r_iadd dX11_readByPerson_196 ?_
            refine r_iconst (v := 0) dX11_readByPerson_197 (by decide) ?_
            refine r_bipush (v := 27) dX11_readByPerson_198 (by decide) ?_
            obtain ⟨x200, e200, h⟩ := Sat_bind h
            refine r_cV (t := 12) [.ref x189, .int ((8 : Int32) + x52), .int (0 : Int32), .int (27 : Int32)] [] (m_X11_readInto a0_43 x189 ((8 : Int32) + x52) (0 : Int32) (27 : Int32) x181.2 e200) ck_X11_readInto lk_X11_274 in_X11_readInto se_X11_readInto (kd_of e200) ⟨rfl, by decide, by decide⟩ rfl rfl (Nat.le_of_ble_eq_true rfl) ⟨by decide, by decide⟩ ⟨Nat.zero_le _, Nat.zero_le _⟩ dX11_readByPerson_200 ?_
            refine r_if_eq 238 dX11_readByPerson_203 (by decide) (fun c203 => ?_) (fun c203 => ?_)
            · have h := Sat_pos c203 h
              exact r_sub [2, 4] rfl (J238 a0_43 l2_43 x200.2 h)
            · have h := Sat_neg c203 h
              refine r_aload_n dX11_readByPerson_206 2 rfl ?_
              refine r_aload_n dX11_readByPerson_207 2 rfl ?_
              obtain ⟨x208, e208, h⟩ := Sat_bind h
              refine r_getP fk_X11_55 rfl e208 dX11_readByPerson_208 ?_
              refine r_bipush (v := 8) dX11_readByPerson_211 (by decide) ?_
              refine r_iload dX11_readByPerson_213 0 rfl ?_
              refine r_iadd dX11_readByPerson_215 ?_
              refine r_aload_n dX11_readByPerson_216 2 rfl ?_
              obtain ⟨x217, e217, h⟩ := Sat_bind h
              refine r_getP fk_X11_52 rfl e217 dX11_readByPerson_217 ?_
              refine r_bipush (v := 8) dX11_readByPerson_220 (by decide) ?_
              refine r_iload dX11_readByPerson_222 0 rfl ?_
              refine r_iadd dX11_readByPerson_224 ?_
              obtain ⟨x225, e225, h⟩ := Sat_bind h
              refine r_iaload e225 dX11_readByPerson_225 ?_
              refine r_bipush (v := 27) dX11_readByPerson_226 (by decide) ?_
              obtain ⟨x228, e228, h⟩ := Sat_bind h
              refine r_cV (t := 12) [.ref x208, .int ((8 : Int32) + x52), .int x225, .int (27 : Int32)] [] (m_X11_readInto a0_43 x208 ((8 : Int32) + x52) x225 (27 : Int32) x200.2 e228) ck_X11_readInto lk_X11_274 in_X11_readInto se_X11_readInto (kd_of e228) ⟨rfl, by decide, by decide⟩ rfl rfl (Nat.le_of_ble_eq_true rfl) ⟨by decide, by decide⟩ ⟨Nat.zero_le _, Nat.zero_le _⟩ dX11_readByPerson_228 ?_
              refine r_if_eq 238 dX11_readByPerson_231 (by decide) (fun c231 => ?_) (fun c231 => ?_)
              · have h := Sat_pos c231 h
                exact r_sub [2, 4] rfl (J238 a0_43 l2_43 x228.2 h)
              · have h := Sat_neg c231 h
                refine r_iconst (v := 1) dX11_readByPerson_234 (by decide) ?_
                refine r_goto 239 dX11_readByPerson_235 (by decide) ?_
                exact r_sub [2, 4] rfl (J239 a0_43 l2_43 (1 : Int32) x228.2 h)
        · have h := Sat_pos c123 h
          refine r_aload_n dX11_readByPerson_126 2 rfl ?_
          refine r_aload_n dX11_readByPerson_127 2 rfl ?_
          obtain ⟨x128, e128, h⟩ := Sat_bind h
          refine r_getP fk_X11_43 rfl e128 dX11_readByPerson_128 ?_
          refine r_bipush (v := 8) dX11_readByPerson_131 (by decide) ?_
          refine r_iload dX11_readByPerson_133 0 rfl ?_
          refine r_iadd dX11_readByPerson_135 ?_
          obtain ⟨x136, e136, h⟩ := Sat_bind h
          refine r_cV (t := 12) [.ref x128, .int ((8 : Int32) + x52)] [] (m_X11_readWho a0_43 x128 ((8 : Int32) + x52) x68 e136) ck_X11_readWho lk_X11_270 in_X11_readWho se_X11_readWho (kd_of e136) ⟨rfl, by decide, by decide⟩ rfl rfl (Nat.le_of_ble_eq_true rfl) ⟨by decide, by decide⟩ ⟨Nat.zero_le _, Nat.zero_le _⟩ dX11_readByPerson_136 ?_
          refine r_if_eq 165 dX11_readByPerson_139 (by decide) (fun c139 => ?_) (fun c139 => ?_)
          · have h := Sat_pos c139 h
            exact r_sub [2, 4] rfl (J165 a0_43 l2_43 x136.2 h)
          · have h := Sat_neg c139 h
            refine r_aload_n dX11_readByPerson_142 2 rfl ?_
            refine r_aload_n dX11_readByPerson_143 2 rfl ?_
            obtain ⟨x144, e144, h⟩ := Sat_bind h
            refine r_getP fk_X11_46 rfl e144 dX11_readByPerson_144 ?_
            refine r_bipush (v := 8) dX11_readByPerson_147 (by decide) ?_
            refine r_iload dX11_readByPerson_149 0 rfl ?_
            refine r_iadd dX11_readByPerson_151 ?_
            refine r_iconst (v := 0) dX11_readByPerson_152 (by decide) ?_
            refine r_bipush (v := 27) dX11_readByPerson_153 (by decide) ?_
            obtain ⟨x155, e155, h⟩ := Sat_bind h
            refine r_cV (t := 12) [.ref x144, .int ((8 : Int32) + x52), .int (0 : Int32), .int (27 : Int32)] [] (m_X11_readInto a0_43 x144 ((8 : Int32) + x52) (0 : Int32) (27 : Int32) x136.2 e155) ck_X11_readInto lk_X11_274 in_X11_readInto se_X11_readInto (kd_of e155) ⟨rfl, by decide, by decide⟩ rfl rfl (Nat.le_of_ble_eq_true rfl) ⟨by decide, by decide⟩ ⟨Nat.zero_le _, Nat.zero_le _⟩ dX11_readByPerson_155 ?_
            refine r_if_eq 165 dX11_readByPerson_158 (by decide) (fun c158 => ?_) (fun c158 => ?_)
            · have h := Sat_pos c158 h
              exact r_sub [2, 4] rfl (J165 a0_43 l2_43 x155.2 h)
            · have h := Sat_neg c158 h
              refine r_iconst (v := 1) dX11_readByPerson_161 (by decide) ?_
              refine r_goto 166 dX11_readByPerson_162 (by decide) ?_
              exact r_sub [2, 4] rfl (J166 a0_43 l2_43 (1 : Int32) x155.2 h)
      · have h := Sat_pos c73 h
        refine r_aload_n dX11_readByPerson_76 2 rfl ?_
        refine r_aload_n dX11_readByPerson_77 2 rfl ?_
        obtain ⟨x78, e78, h⟩ := Sat_bind h
        refine r_getP fk_X11_28 rfl e78 dX11_readByPerson_78 ?_
        refine r_bipush (v := 12) dX11_readByPerson_81 (by decide) ?_
        refine r_iload dX11_readByPerson_83 0 rfl ?_
        refine r_iadd dX11_readByPerson_85 ?_
        obtain ⟨x86, e86, h⟩ := Sat_bind h
        refine r_cV (t := 12) [.ref x78, .int ((12 : Int32) + x52)] [] (m_X11_readWho a0_43 x78 ((12 : Int32) + x52) x68 e86) ck_X11_readWho lk_X11_270 in_X11_readWho se_X11_readWho (kd_of e86) ⟨rfl, by decide, by decide⟩ rfl rfl (Nat.le_of_ble_eq_true rfl) ⟨by decide, by decide⟩ ⟨Nat.zero_le _, Nat.zero_le _⟩ dX11_readByPerson_86 ?_
        refine r_if_eq 115 dX11_readByPerson_89 (by decide) (fun c89 => ?_) (fun c89 => ?_)
        · have h := Sat_pos c89 h
          exact r_sub [2, 4] rfl (J115 a0_43 l2_43 x86.2 h)
        · have h := Sat_neg c89 h
          refine r_aload_n dX11_readByPerson_92 2 rfl ?_
          refine r_aload_n dX11_readByPerson_93 2 rfl ?_
          obtain ⟨x94, e94, h⟩ := Sat_bind h
          refine r_getP fk_X11_31 rfl e94 dX11_readByPerson_94 ?_
          refine r_bipush (v := 12) dX11_readByPerson_97 (by decide) ?_
          refine r_iload dX11_readByPerson_99 0 rfl ?_
          refine r_iadd dX11_readByPerson_101 ?_
          refine r_iconst (v := 0) dX11_readByPerson_102 (by decide) ?_
          refine r_bipush (v := 27) dX11_readByPerson_103 (by decide) ?_
          obtain ⟨x105, e105, h⟩ := Sat_bind h
          refine r_cV (t := 12) [.ref x94, .int ((12 : Int32) + x52), .int (0 : Int32), .int (27 : Int32)] [] (m_X11_readInto a0_43 x94 ((12 : Int32) + x52) (0 : Int32) (27 : Int32) x86.2 e105) ck_X11_readInto lk_X11_274 in_X11_readInto se_X11_readInto (kd_of e105) ⟨rfl, by decide, by decide⟩ rfl rfl (Nat.le_of_ble_eq_true rfl) ⟨by decide, by decide⟩ ⟨Nat.zero_le _, Nat.zero_le _⟩ dX11_readByPerson_105 ?_
          refine r_if_eq 115 dX11_readByPerson_108 (by decide) (fun c108 => ?_) (fun c108 => ?_)
          · have h := Sat_pos c108 h
            exact r_sub [2, 4] rfl (J115 a0_43 l2_43 x105.2 h)
          · have h := Sat_neg c108 h
            refine r_iconst (v := 1) dX11_readByPerson_111 (by decide) ?_
            refine r_goto 116 dX11_readByPerson_112 (by decide) ?_
            exact r_sub [2, 4] rfl (J116 a0_43 l2_43 (1 : Int32) x105.2 h)
    · have h := Sat_pos c58 h
      refine r_aload_n dX11_readByPerson_61 2 rfl ?_
      refine r_iconst (v := 4) dX11_readByPerson_62 (by decide) ?_
      obtain ⟨x63, e63, h⟩ := Sat_bind h
      refine r_cV (t := 12) [.int (4 : Int32)] [] (m_X11_fails a0_43 (4 : Int32) μ_43 e63) ck_X11_fails lk_X11_214 in_X11_fails se_X11_fails (kd_of e63) ⟨rfl, by decide, by decide⟩ rfl rfl (Nat.le_of_ble_eq_true rfl) ⟨by decide, by decide⟩ ⟨Nat.zero_le _, Nat.zero_le _⟩ dX11_readByPerson_63 ?_
      obtain ⟨hz, h⟩ := Sat_ifp h
      exact r_zreturn rfl hz (by rw [← Sat_eq h]; exact ⟨rfl, rfl⟩) dX11_readByPerson_66
  have J20 : ∀ (a0_20 : Nat) (l1_20 : Int32) (k0_20 : Int32) (μ_20 : Mm), Sat (f_X11_readByPerson_J20 a0_20 l1_20 k0_20 μ_20) (fun x => x = r) → Rn_X11_readByPerson G (fun v μ' => v = some (.int r.1) ∧ μ' = r.2) 20 [(0, .ref a0_20), (1, .int l1_20)] [.int k0_20] μ_20 := by
    intro a0_20 l1_20 k0_20 μ_20 h
    refine r_istore_n (lv' := [(2, .int k0_20), (0, .ref a0_20), (1, .int l1_20)]) dX11_readByPerson_20 rfl (by decide) rfl ?_
    refine r_iload_n dX11_readByPerson_21 2 rfl ?_
    refine r_iconst (v := 2) dX11_readByPerson_22 (by decide) ?_
    refine r_icmp_ne 31 dX11_readByPerson_23 (by decide) (fun c23 => ?_) (fun c23 => ?_)
    · have h := Sat_neg c23 h
      refine r_iload_n dX11_readByPerson_31 2 rfl ?_
      refine r_iconst (v := 4) dX11_readByPerson_32 (by decide) ?_
      refine r_icmp_ne 41 dX11_readByPerson_33 (by decide) (fun c33 => ?_) (fun c33 => ?_)
      · have h := Sat_neg c33 h
        refine r_bipush (v := 8) dX11_readByPerson_41 (by decide) ?_
        exact r_sub [1, 2, 0] rfl (J43 a0_20 l1_20 k0_20 (8 : Int32) μ_20 h)
      · have h := Sat_pos c33 h
        refine r_bipush (v := 8) dX11_readByPerson_36 (by decide) ?_
        refine r_goto 43 dX11_readByPerson_38 (by decide) ?_
        exact r_sub [1, 2, 0] rfl (J43 a0_20 l1_20 k0_20 (8 : Int32) μ_20 h)
    · have h := Sat_pos c23 h
      refine r_bipush (v := 12) dX11_readByPerson_26 (by decide) ?_
      refine r_goto 43 dX11_readByPerson_28 (by decide) ?_
      exact r_sub [1, 2, 0] rfl (J43 a0_20 l1_20 k0_20 (12 : Int32) μ_20 h)
  refine r_iload_n dX11_readByPerson_0 1 rfl ?_
  refine r_iconst (v := 2) dX11_readByPerson_1 (by decide) ?_
  refine r_icmp_ne 9 dX11_readByPerson_2 (by decide) (fun c2 => ?_) (fun c2 => ?_)
  · have h := Sat_neg c2 h
    refine r_iload_n dX11_readByPerson_9 1 rfl ?_
    refine r_iconst (v := 4) dX11_readByPerson_10 (by decide) ?_
    refine r_icmp_ne 18 dX11_readByPerson_11 (by decide) (fun c11 => ?_) (fun c11 => ?_)
    · have h := Sat_neg c11 h
      refine r_bipush (v := 6) dX11_readByPerson_18 (by decide) ?_
      exact r_sub [0, 1] rfl (J20 a0 l1 (6 : Int32) μ h)
    · have h := Sat_pos c11 h
      refine r_iconst (v := 3) dX11_readByPerson_14 (by decide) ?_
      refine r_goto 20 dX11_readByPerson_15 (by decide) ?_
      exact r_sub [0, 1] rfl (J20 a0 l1 (3 : Int32) μ h)
  · have h := Sat_pos c2 h
    refine r_iconst (v := 1) dX11_readByPerson_5 (by decide) ?_
    refine r_goto 20 dX11_readByPerson_6 (by decide) ?_
    exact r_sub [0, 1] rfl (J20 a0 l1 (1 : Int32) μ h)
theorem dX11_readDreams_0 : decode cX11_readDreams 0 = .ok (.aload_n 0, 1) := by decide +kernel
theorem dX11_readDreams_1 : decode cX11_readDreams 1 = .ok (.invokevirtual 224, 3) := by decide +kernel
theorem dX11_readDreams_4 : decode cX11_readDreams 4 = .ok (.aload_n 0, 1) := by decide +kernel
theorem dX11_readDreams_5 : decode cX11_readDreams 5 = .ok (.getfield 186, 3) := by decide +kernel
theorem dX11_readDreams_8 : decode cX11_readDreams 8 = .ok (.iconst 1, 1) := by decide +kernel
theorem dX11_readDreams_9 : decode cX11_readDreams 9 = .ok (.if_icmp .eq 9, 3) := by decide +kernel
theorem dX11_readDreams_12 : decode cX11_readDreams 12 = .ok (.aload_n 0, 1) := by decide +kernel
theorem dX11_readDreams_13 : decode cX11_readDreams 13 = .ok (.iconst 1, 1) := by decide +kernel
theorem dX11_readDreams_14 : decode cX11_readDreams 14 = .ok (.invokevirtual 214, 3) := by decide +kernel
theorem dX11_readDreams_17 : decode cX11_readDreams 17 = .ok (.ireturn, 1) := by decide +kernel
theorem dX11_readDreams_18 : decode cX11_readDreams 18 = .ok (.aload_n 0, 1) := by decide +kernel
theorem dX11_readDreams_19 : decode cX11_readDreams 19 = .ok (.invokevirtual 257, 3) := by decide +kernel
theorem dX11_readDreams_22 : decode cX11_readDreams 22 = .ok (.istore_n 1, 1) := by decide +kernel
theorem dX11_readDreams_23 : decode cX11_readDreams 23 = .ok (.iload_n 1, 1) := by decide +kernel
theorem dX11_readDreams_24 : decode cX11_readDreams 24 = .ok (.iconst (-1), 1) := by decide +kernel
theorem dX11_readDreams_25 : decode cX11_readDreams 25 = .ok (.if_icmp .eq 21, 3) := by decide +kernel
theorem dX11_readDreams_28 : decode cX11_readDreams 28 = .ok (.aload_n 0, 1) := by decide +kernel
theorem dX11_readDreams_29 : decode cX11_readDreams 29 = .ok (.getfield 25, 3) := by decide +kernel
theorem dX11_readDreams_32 : decode cX11_readDreams 32 = .ok (.bipush 8, 2) := by decide +kernel
theorem dX11_readDreams_34 : decode cX11_readDreams 34 = .ok (.iload_n 1, 1) := by decide +kernel
theorem dX11_readDreams_35 : decode cX11_readDreams 35 = .ok (.iadd, 1) := by decide +kernel
theorem dX11_readDreams_36 : decode cX11_readDreams 36 = .ok (.iaload, 1) := by decide +kernel
theorem dX11_readDreams_37 : decode cX11_readDreams 37 = .ok (.ifCond .le 9, 3) := by decide +kernel
theorem dX11_readDreams_40 : decode cX11_readDreams 40 = .ok (.aload_n 0, 1) := by decide +kernel
theorem dX11_readDreams_41 : decode cX11_readDreams 41 = .ok (.iconst 3, 1) := by decide +kernel
theorem dX11_readDreams_42 : decode cX11_readDreams 42 = .ok (.invokevirtual 214, 3) := by decide +kernel
theorem dX11_readDreams_45 : decode cX11_readDreams 45 = .ok (.ireturn, 1) := by decide +kernel
theorem dX11_readDreams_46 : decode cX11_readDreams 46 = .ok (.iload_n 1, 1) := by decide +kernel
theorem dX11_readDreams_47 : decode cX11_readDreams 47 = .ok (.iconst (-1), 1) := by decide +kernel
theorem dX11_readDreams_48 : decode cX11_readDreams 48 = .ok (.if_icmp .eq 11, 3) := by decide +kernel
theorem dX11_readDreams_51 : decode cX11_readDreams 51 = .ok (.aload_n 0, 1) := by decide +kernel
theorem dX11_readDreams_52 : decode cX11_readDreams 52 = .ok (.iload_n 1, 1) := by decide +kernel
theorem dX11_readDreams_53 : decode cX11_readDreams 53 = .ok (.invokevirtual 260, 3) := by decide +kernel
theorem dX11_readDreams_56 : decode cX11_readDreams 56 = .ok (.ifCond .eq 9, 3) := by decide +kernel
theorem dX11_readDreams_59 : decode cX11_readDreams 59 = .ok (.aload_n 0, 1) := by decide +kernel
theorem dX11_readDreams_60 : decode cX11_readDreams 60 = .ok (.iconst 5, 1) := by decide +kernel
theorem dX11_readDreams_61 : decode cX11_readDreams 61 = .ok (.invokevirtual 214, 3) := by decide +kernel
theorem dX11_readDreams_64 : decode cX11_readDreams 64 = .ok (.ireturn, 1) := by decide +kernel
theorem dX11_readDreams_65 : decode cX11_readDreams 65 = .ok (.aload_n 0, 1) := by decide +kernel
theorem dX11_readDreams_66 : decode cX11_readDreams 66 = .ok (.invokevirtual 224, 3) := by decide +kernel
theorem dX11_readDreams_69 : decode cX11_readDreams 69 = .ok (.aload_n 0, 1) := by decide +kernel
theorem dX11_readDreams_70 : decode cX11_readDreams 70 = .ok (.getfield 186, 3) := by decide +kernel
theorem dX11_readDreams_73 : decode cX11_readDreams 73 = .ok (.iconst 1, 1) := by decide +kernel
theorem dX11_readDreams_74 : decode cX11_readDreams 74 = .ok (.if_icmp .eq 9, 3) := by decide +kernel
theorem dX11_readDreams_77 : decode cX11_readDreams 77 = .ok (.aload_n 0, 1) := by decide +kernel
theorem dX11_readDreams_78 : decode cX11_readDreams 78 = .ok (.iconst 1, 1) := by decide +kernel
theorem dX11_readDreams_79 : decode cX11_readDreams 79 = .ok (.invokevirtual 214, 3) := by decide +kernel
theorem dX11_readDreams_82 : decode cX11_readDreams 82 = .ok (.ireturn, 1) := by decide +kernel
theorem dX11_readDreams_83 : decode cX11_readDreams 83 = .ok (.aload_n 0, 1) := by decide +kernel
theorem dX11_readDreams_84 : decode cX11_readDreams 84 = .ok (.invokevirtual 257, 3) := by decide +kernel
theorem dX11_readDreams_87 : decode cX11_readDreams 87 = .ok (.istore_n 2, 1) := by decide +kernel
theorem dX11_readDreams_88 : decode cX11_readDreams 88 = .ok (.iload_n 2, 1) := by decide +kernel
theorem dX11_readDreams_89 : decode cX11_readDreams 89 = .ok (.iload_n 1, 1) := by decide +kernel
theorem dX11_readDreams_90 : decode cX11_readDreams 90 = .ok (.if_icmp .eq 16, 3) := by decide +kernel
theorem dX11_readDreams_93 : decode cX11_readDreams 93 = .ok (.iload_n 2, 1) := by decide +kernel
theorem dX11_readDreams_94 : decode cX11_readDreams 94 = .ok (.iconst (-1), 1) := by decide +kernel
theorem dX11_readDreams_95 : decode cX11_readDreams 95 = .ok (.if_icmp .eq 17, 3) := by decide +kernel
theorem dX11_readDreams_98 : decode cX11_readDreams 98 = .ok (.aload_n 0, 1) := by decide +kernel
theorem dX11_readDreams_99 : decode cX11_readDreams 99 = .ok (.iload_n 2, 1) := by decide +kernel
theorem dX11_readDreams_100 : decode cX11_readDreams 100 = .ok (.invokevirtual 263, 3) := by decide +kernel
theorem dX11_readDreams_103 : decode cX11_readDreams 103 = .ok (.ifCond .eq 9, 3) := by decide +kernel
theorem dX11_readDreams_106 : decode cX11_readDreams 106 = .ok (.aload_n 0, 1) := by decide +kernel
theorem dX11_readDreams_107 : decode cX11_readDreams 107 = .ok (.iconst 3, 1) := by decide +kernel
theorem dX11_readDreams_108 : decode cX11_readDreams 108 = .ok (.invokevirtual 214, 3) := by decide +kernel
theorem dX11_readDreams_111 : decode cX11_readDreams 111 = .ok (.ireturn, 1) := by decide +kernel
theorem dX11_readDreams_112 : decode cX11_readDreams 112 = .ok (.iload_n 2, 1) := by decide +kernel
theorem dX11_readDreams_113 : decode cX11_readDreams 113 = .ok (.iconst (-1), 1) := by decide +kernel
theorem dX11_readDreams_114 : decode cX11_readDreams 114 = .ok (.if_icmp .eq 11, 3) := by decide +kernel
theorem dX11_readDreams_117 : decode cX11_readDreams 117 = .ok (.aload_n 0, 1) := by decide +kernel
theorem dX11_readDreams_118 : decode cX11_readDreams 118 = .ok (.iload_n 2, 1) := by decide +kernel
theorem dX11_readDreams_119 : decode cX11_readDreams 119 = .ok (.invokevirtual 260, 3) := by decide +kernel
theorem dX11_readDreams_122 : decode cX11_readDreams 122 = .ok (.ifCond .eq 9, 3) := by decide +kernel
theorem dX11_readDreams_125 : decode cX11_readDreams 125 = .ok (.aload_n 0, 1) := by decide +kernel
theorem dX11_readDreams_126 : decode cX11_readDreams 126 = .ok (.iconst 5, 1) := by decide +kernel
theorem dX11_readDreams_127 : decode cX11_readDreams 127 = .ok (.invokevirtual 214, 3) := by decide +kernel
theorem dX11_readDreams_130 : decode cX11_readDreams 130 = .ok (.ireturn, 1) := by decide +kernel
theorem dX11_readDreams_131 : decode cX11_readDreams 131 = .ok (.aload_n 0, 1) := by decide +kernel
theorem dX11_readDreams_132 : decode cX11_readDreams 132 = .ok (.getfield 25, 3) := by decide +kernel
theorem dX11_readDreams_135 : decode cX11_readDreams 135 = .ok (.bipush 8, 2) := by decide +kernel
theorem dX11_readDreams_137 : decode cX11_readDreams 137 = .ok (.iload_n 1, 1) := by decide +kernel
theorem dX11_readDreams_138 : decode cX11_readDreams 138 = .ok (.iadd, 1) := by decide +kernel
theorem dX11_readDreams_139 : decode cX11_readDreams 139 = .ok (.iload_n 2, 1) := by decide +kernel
theorem dX11_readDreams_140 : decode cX11_readDreams 140 = .ok (.iconst 1, 1) := by decide +kernel
theorem dX11_readDreams_141 : decode cX11_readDreams 141 = .ok (.iadd, 1) := by decide +kernel
theorem dX11_readDreams_142 : decode cX11_readDreams 142 = .ok (.iastore, 1) := by decide +kernel
theorem dX11_readDreams_143 : decode cX11_readDreams 143 = .ok (.aload_n 0, 1) := by decide +kernel
theorem dX11_readDreams_144 : decode cX11_readDreams 144 = .ok (.invokevirtual 224, 3) := by decide +kernel
theorem dX11_readDreams_147 : decode cX11_readDreams 147 = .ok (.iconst 1, 1) := by decide +kernel
theorem dX11_readDreams_148 : decode cX11_readDreams 148 = .ok (.ireturn, 1) := by decide +kernel
noncomputable def f_X11_readDreams_J59 (a0 : Nat) (μ : Mm) : Option (Int32 × Mm) :=
  (f_X11_fails a0 (5 : Int32) μ).bind fun x61 => if x61.1 = 0 ∨ x61.1 = 1 then some (x61.1, x61.2) else none
noncomputable def f_X11_readDreams_J106 (a0 : Nat) (μ : Mm) : Option (Int32 × Mm) :=
  (f_X11_fails a0 (3 : Int32) μ).bind fun x108 => if x108.1 = 0 ∨ x108.1 = 1 then some (x108.1, x108.2) else none
noncomputable def f_X11_readDreams_J125 (a0 : Nat) (μ : Mm) : Option (Int32 × Mm) :=
  (f_X11_fails a0 (5 : Int32) μ).bind fun x127 => if x127.1 = 0 ∨ x127.1 = 1 then some (x127.1, x127.2) else none
noncomputable def f_X11_readDreams_J112 (a0 : Nat) (l1 : Int32) (l2 : Int32) (μ : Mm) : Option (Int32 × Mm) :=
  if l2 = (-1 : Int32) then f_X11_readDreams_J125 a0 μ else (f_X11_isAloneInDraft a0 l2 μ).bind fun x119 => if x119 = 0 then (gf_P 12 14 a0 μ).bind fun x132 => (pa_I x132 ((8 : Int32) + l1) (l2 + (1 : Int32)) μ).bind fun μ142 => (f_X11_scan a0 μ142).bind fun x144 => some ((1 : Int32), x144) else f_X11_readDreams_J125 a0 μ
noncomputable def f_X11_readDreams_J46 (a0 : Nat) (l1 : Int32) (μ : Mm) : Option (Int32 × Mm) :=
  if l1 = (-1 : Int32) then f_X11_readDreams_J59 a0 μ else (f_X11_isAloneInDraft a0 l1 μ).bind fun x53 => if x53 = 0 then (f_X11_scan a0 μ).bind fun x66 => (gf_I 12 3 a0 x66).bind fun x70 => if x70 = (1 : Int32) then (f_X11_named a0 x66).bind fun x84 => if x84 = l1 then f_X11_readDreams_J106 a0 x66 else if x84 = (-1 : Int32) then f_X11_readDreams_J112 a0 l1 x84 x66 else (f_X11_isDreamtInDraft a0 x84 x66).bind fun x100 => if x100 = 0 then f_X11_readDreams_J112 a0 l1 x84 x66 else f_X11_readDreams_J106 a0 x66 else (f_X11_fails a0 (1 : Int32) x66).bind fun x79 => if x79.1 = 0 ∨ x79.1 = 1 then some (x79.1, x79.2) else none else f_X11_readDreams_J59 a0 μ
noncomputable def f_X11_readDreams (a0 : Nat) (μ : Mm) : Option (Int32 × Mm) :=
  if (mm_K μ a0).1 = 12 then (f_X11_scan a0 μ).bind fun x1 => (gf_I 12 3 a0 x1).bind fun x5 => if x5 = (1 : Int32) then (f_X11_named a0 x1).bind fun x19 => if x19 = (-1 : Int32) then f_X11_readDreams_J46 a0 x19 x1 else (gf_P 12 14 a0 x1).bind fun x29 => (ga_I x29 ((8 : Int32) + x19) x1).bind fun x36 => if x36 ≤ 0 then f_X11_readDreams_J46 a0 x19 x1 else (f_X11_fails a0 (3 : Int32) x1).bind fun x42 => if x42.1 = 0 ∨ x42.1 = 1 then some (x42.1, x42.2) else none else (f_X11_fails a0 (1 : Int32) x1).bind fun x14 => if x14.1 = 0 ∨ x14.1 = 1 then some (x14.1, x14.2) else none else none
abbrev Rn_X11_readDreams (G : Gv) (Q : Option Value → Mm → Prop) (pc : Nat) (lv : List (Nat × Value)) (st : List Value) (μ : Mm) : Prop := Rn G RX11 cX11_readDreams 3 (some .boolean) "readDreams" (rmd 6 0 0) (Zm G 0 0 Q) 0 0 pc lv st μ
set_option maxRecDepth 100000 in
set_option maxHeartbeats 4000000 in
theorem m_X11_readDreams {G : Gv} (a0 : Nat) (μ : Mm) {r : (Int32 × Mm)} (hx : f_X11_readDreams a0 μ = some r) : Mt G yX11_readDreams cX11_readDreams 3 (some .boolean) 6 0 0 [.ref a0] μ (fun v μ' => v = some (.int r.1) ∧ μ' = r.2) := by
  refine Mt.of (by decide) (Nat.le_of_ble_eq_true rfl) ?_
  show Rn_X11_readDreams G (fun v μ' => v = some (.int r.1) ∧ μ' = r.2) 0 [(0, .ref a0)] [] μ
  obtain ⟨_, h⟩ := Sat_ifp (show Sat (f_X11_readDreams a0 μ) (fun x => x = r) from ⟨_, hx, rfl⟩)
  have J59 : ∀ (a0_59 : Nat) (μ_59 : Mm), Sat (f_X11_readDreams_J59 a0_59 μ_59) (fun x => x = r) → Rn_X11_readDreams G (fun v μ' => v = some (.int r.1) ∧ μ' = r.2) 59 [(0, .ref a0_59)] [] μ_59 := by
    intro a0_59 μ_59 h
    refine r_aload_n dX11_readDreams_59 0 rfl ?_
    refine r_iconst (v := 5) dX11_readDreams_60 (by decide) ?_
    obtain ⟨x61, e61, h⟩ := Sat_bind h
    refine r_cV (t := 12) [.int (5 : Int32)] [] (m_X11_fails a0_59 (5 : Int32) μ_59 e61) ck_X11_fails lk_X11_214 in_X11_fails se_X11_fails (kd_of e61) ⟨rfl, by decide, by decide⟩ rfl rfl (Nat.le_of_ble_eq_true rfl) ⟨by decide, by decide⟩ ⟨Nat.zero_le _, Nat.zero_le _⟩ dX11_readDreams_61 ?_
    obtain ⟨hz, h⟩ := Sat_ifp h
    exact r_zreturn rfl hz (by rw [← Sat_eq h]; exact ⟨rfl, rfl⟩) dX11_readDreams_64
  have J106 : ∀ (a0_106 : Nat) (μ_106 : Mm), Sat (f_X11_readDreams_J106 a0_106 μ_106) (fun x => x = r) → Rn_X11_readDreams G (fun v μ' => v = some (.int r.1) ∧ μ' = r.2) 106 [(0, .ref a0_106)] [] μ_106 := by
    intro a0_106 μ_106 h
    refine r_aload_n dX11_readDreams_106 0 rfl ?_
    refine r_iconst (v := 3) dX11_readDreams_107 (by decide) ?_
    obtain ⟨x108, e108, h⟩ := Sat_bind h
    refine r_cV (t := 12) [.int (3 : Int32)] [] (m_X11_fails a0_106 (3 : Int32) μ_106 e108) ck_X11_fails lk_X11_214 in_X11_fails se_X11_fails (kd_of e108) ⟨rfl, by decide, by decide⟩ rfl rfl (Nat.le_of_ble_eq_true rfl) ⟨by decide, by decide⟩ ⟨Nat.zero_le _, Nat.zero_le _⟩ dX11_readDreams_108 ?_
    obtain ⟨hz, h⟩ := Sat_ifp h
    exact r_zreturn rfl hz (by rw [← Sat_eq h]; exact ⟨rfl, rfl⟩) dX11_readDreams_111
  have J125 : ∀ (a0_125 : Nat) (μ_125 : Mm), Sat (f_X11_readDreams_J125 a0_125 μ_125) (fun x => x = r) → Rn_X11_readDreams G (fun v μ' => v = some (.int r.1) ∧ μ' = r.2) 125 [(0, .ref a0_125)] [] μ_125 := by
    intro a0_125 μ_125 h
    refine r_aload_n dX11_readDreams_125 0 rfl ?_
    refine r_iconst (v := 5) dX11_readDreams_126 (by decide) ?_
    obtain ⟨x127, e127, h⟩ := Sat_bind h
    refine r_cV (t := 12) [.int (5 : Int32)] [] (m_X11_fails a0_125 (5 : Int32) μ_125 e127) ck_X11_fails lk_X11_214 in_X11_fails se_X11_fails (kd_of e127) ⟨rfl, by decide, by decide⟩ rfl rfl (Nat.le_of_ble_eq_true rfl) ⟨by decide, by decide⟩ ⟨Nat.zero_le _, Nat.zero_le _⟩ dX11_readDreams_127 ?_
    obtain ⟨hz, h⟩ := Sat_ifp h
    exact r_zreturn rfl hz (by rw [← Sat_eq h]; exact ⟨rfl, rfl⟩) dX11_readDreams_130
  have J112 : ∀ (a0_112 : Nat) (l1_112 : Int32) (l2_112 : Int32) (μ_112 : Mm), Sat (f_X11_readDreams_J112 a0_112 l1_112 l2_112 μ_112) (fun x => x = r) → Rn_X11_readDreams G (fun v μ' => v = some (.int r.1) ∧ μ' = r.2) 112 [(0, .ref a0_112), (1, .int l1_112), (2, .int l2_112)] [] μ_112 := by
    intro a0_112 l1_112 l2_112 μ_112 h
    refine r_iload_n dX11_readDreams_112 2 rfl ?_
    refine r_iconst (v := -1) dX11_readDreams_113 (by decide) ?_
    refine r_icmp_eq 125 dX11_readDreams_114 (by decide) (fun c114 => ?_) (fun c114 => ?_)
    · have h := Sat_pos c114 h
      exact r_sub [0] rfl (J125 a0_112 μ_112 h)
    · have h := Sat_neg c114 h
      refine r_aload_n dX11_readDreams_117 0 rfl ?_
      refine r_iload_n dX11_readDreams_118 2 rfl ?_
      obtain ⟨x119, e119, h⟩ := Sat_bind h
      refine r_cV (t := 12) [.int l2_112] [] (m_X11_isAloneInDraft a0_112 l2_112 μ_112 e119) ck_X11_isAloneInDraft lk_X11_260 in_X11_isAloneInDraft se_X11_isAloneInDraft (kd_of e119) ⟨rfl, by decide, by decide⟩ rfl rfl (Nat.le_of_ble_eq_true rfl) ⟨by decide, by decide⟩ ⟨Nat.zero_le _, Nat.zero_le _⟩ dX11_readDreams_119 ?_
      refine r_if_eq 131 dX11_readDreams_122 (by decide) (fun c122 => ?_) (fun c122 => ?_)
      · have h := Sat_pos c122 h
        refine r_aload_n dX11_readDreams_131 0 rfl ?_
        obtain ⟨x132, e132, h⟩ := Sat_bind h
        refine r_getP fk_X11_25 rfl e132 dX11_readDreams_132 ?_
        refine r_bipush (v := 8) dX11_readDreams_135 (by decide) ?_
        refine r_iload_n dX11_readDreams_137 1 rfl ?_
        refine r_iadd dX11_readDreams_138 ?_
        refine r_iload_n dX11_readDreams_139 2 rfl ?_
        refine r_iconst (v := 1) dX11_readDreams_140 (by decide) ?_
        refine r_iadd dX11_readDreams_141 ?_
        obtain ⟨μ142, e142, h⟩ := Sat_bind h
        refine r_iastore e142 dX11_readDreams_142 ?_
        refine r_aload_n dX11_readDreams_143 0 rfl ?_
        obtain ⟨x144, e144, h⟩ := Sat_bind h
        refine r_cV (t := 12) [] [] (m_X11_scan a0_112 μ142 e144) ck_X11_scan lk_X11_224 in_X11_scan se_X11_scan (kd_of e144) ⟨rfl, by decide, by decide⟩ rfl rfl (Nat.le_of_ble_eq_true rfl) ⟨by decide, by decide⟩ ⟨Nat.zero_le _, Nat.zero_le _⟩ dX11_readDreams_144 ?_
        refine r_iconst (v := 1) dX11_readDreams_147 (by decide) ?_
        exact r_zreturn rfl (by decide) (by rw [← Sat_eq h]; exact ⟨rfl, rfl⟩) dX11_readDreams_148
      · have h := Sat_neg c122 h
        exact r_sub [0] rfl (J125 a0_112 μ_112 h)
  have J46 : ∀ (a0_46 : Nat) (l1_46 : Int32) (μ_46 : Mm), Sat (f_X11_readDreams_J46 a0_46 l1_46 μ_46) (fun x => x = r) → Rn_X11_readDreams G (fun v μ' => v = some (.int r.1) ∧ μ' = r.2) 46 [(0, .ref a0_46), (1, .int l1_46)] [] μ_46 := by
    intro a0_46 l1_46 μ_46 h
    refine r_iload_n dX11_readDreams_46 1 rfl ?_
    refine r_iconst (v := -1) dX11_readDreams_47 (by decide) ?_
    refine r_icmp_eq 59 dX11_readDreams_48 (by decide) (fun c48 => ?_) (fun c48 => ?_)
    · have h := Sat_pos c48 h
      exact r_sub [0] rfl (J59 a0_46 μ_46 h)
    · have h := Sat_neg c48 h
      refine r_aload_n dX11_readDreams_51 0 rfl ?_
      refine r_iload_n dX11_readDreams_52 1 rfl ?_
      obtain ⟨x53, e53, h⟩ := Sat_bind h
      refine r_cV (t := 12) [.int l1_46] [] (m_X11_isAloneInDraft a0_46 l1_46 μ_46 e53) ck_X11_isAloneInDraft lk_X11_260 in_X11_isAloneInDraft se_X11_isAloneInDraft (kd_of e53) ⟨rfl, by decide, by decide⟩ rfl rfl (Nat.le_of_ble_eq_true rfl) ⟨by decide, by decide⟩ ⟨Nat.zero_le _, Nat.zero_le _⟩ dX11_readDreams_53 ?_
      refine r_if_eq 65 dX11_readDreams_56 (by decide) (fun c56 => ?_) (fun c56 => ?_)
      · have h := Sat_pos c56 h
        refine r_aload_n dX11_readDreams_65 0 rfl ?_
        obtain ⟨x66, e66, h⟩ := Sat_bind h
        refine r_cV (t := 12) [] [] (m_X11_scan a0_46 μ_46 e66) ck_X11_scan lk_X11_224 in_X11_scan se_X11_scan (kd_of e66) ⟨rfl, by decide, by decide⟩ rfl rfl (Nat.le_of_ble_eq_true rfl) ⟨by decide, by decide⟩ ⟨Nat.zero_le _, Nat.zero_le _⟩ dX11_readDreams_66 ?_
        refine r_aload_n dX11_readDreams_69 0 rfl ?_
        obtain ⟨x70, e70, h⟩ := Sat_bind h
        refine r_getI fk_X11_186 rfl e70 dX11_readDreams_70 ?_
        refine r_iconst (v := 1) dX11_readDreams_73 (by decide) ?_
        refine r_icmp_eq 83 dX11_readDreams_74 (by decide) (fun c74 => ?_) (fun c74 => ?_)
        · have h := Sat_pos c74 h
          refine r_aload_n dX11_readDreams_83 0 rfl ?_
          obtain ⟨x84, e84, h⟩ := Sat_bind h
          refine r_cV (t := 12) [] [] (m_X11_named a0_46 x66 e84) ck_X11_named lk_X11_257 in_X11_named se_X11_named (kd_of e84) ⟨rfl, by decide, by decide⟩ rfl rfl (Nat.le_of_ble_eq_true rfl) ⟨by decide, by decide⟩ ⟨Nat.zero_le _, Nat.zero_le _⟩ dX11_readDreams_84 ?_
          refine r_istore_n (lv' := [(2, .int x84), (0, .ref a0_46), (1, .int l1_46)]) dX11_readDreams_87 rfl (by decide) rfl ?_
          refine r_iload_n dX11_readDreams_88 0 rfl ?_
          refine r_iload_n dX11_readDreams_89 2 rfl ?_
          refine r_icmp_eq 106 dX11_readDreams_90 (by decide) (fun c90 => ?_) (fun c90 => ?_)
          · have h := Sat_pos c90 h
            exact r_sub [1] rfl (J106 a0_46 x66 h)
          · have h := Sat_neg c90 h
            refine r_iload_n dX11_readDreams_93 0 rfl ?_
            refine r_iconst (v := -1) dX11_readDreams_94 (by decide) ?_
            refine r_icmp_eq 112 dX11_readDreams_95 (by decide) (fun c95 => ?_) (fun c95 => ?_)
            · have h := Sat_pos c95 h
              exact r_sub [1, 2, 0] rfl (J112 a0_46 l1_46 x84 x66 h)
            · have h := Sat_neg c95 h
              refine r_aload_n dX11_readDreams_98 1 rfl ?_
              refine r_iload_n dX11_readDreams_99 0 rfl ?_
              obtain ⟨x100, e100, h⟩ := Sat_bind h
              refine r_cV (t := 12) [.int x84] [] (m_X11_isDreamtInDraft a0_46 x84 x66 e100) ck_X11_isDreamtInDraft lk_X11_263 in_X11_isDreamtInDraft se_X11_isDreamtInDraft (kd_of e100) ⟨rfl, by decide, by decide⟩ rfl rfl (Nat.le_of_ble_eq_true rfl) ⟨by decide, by decide⟩ ⟨Nat.zero_le _, Nat.zero_le _⟩ dX11_readDreams_100 ?_
              refine r_if_eq 112 dX11_readDreams_103 (by decide) (fun c103 => ?_) (fun c103 => ?_)
              · have h := Sat_pos c103 h
                exact r_sub [1, 2, 0] rfl (J112 a0_46 l1_46 x84 x66 h)
              · have h := Sat_neg c103 h
                exact r_sub [1] rfl (J106 a0_46 x66 h)
        · have h := Sat_neg c74 h
          refine r_aload_n dX11_readDreams_77 0 rfl ?_
          refine r_iconst (v := 1) dX11_readDreams_78 (by decide) ?_
          obtain ⟨x79, e79, h⟩ := Sat_bind h
          refine r_cV (t := 12) [.int (1 : Int32)] [] (m_X11_fails a0_46 (1 : Int32) x66 e79) ck_X11_fails lk_X11_214 in_X11_fails se_X11_fails (kd_of e79) ⟨rfl, by decide, by decide⟩ rfl rfl (Nat.le_of_ble_eq_true rfl) ⟨by decide, by decide⟩ ⟨Nat.zero_le _, Nat.zero_le _⟩ dX11_readDreams_79 ?_
          obtain ⟨hz, h⟩ := Sat_ifp h
          exact r_zreturn rfl hz (by rw [← Sat_eq h]; exact ⟨rfl, rfl⟩) dX11_readDreams_82
      · have h := Sat_neg c56 h
        exact r_sub [0] rfl (J59 a0_46 μ_46 h)
  refine r_aload_n dX11_readDreams_0 0 rfl ?_
  obtain ⟨x1, e1, h⟩ := Sat_bind h
  refine r_cV (t := 12) [] [] (m_X11_scan a0 μ e1) ck_X11_scan lk_X11_224 in_X11_scan se_X11_scan (kd_of e1) ⟨rfl, by decide, by decide⟩ rfl rfl (Nat.le_of_ble_eq_true rfl) ⟨by decide, by decide⟩ ⟨Nat.zero_le _, Nat.zero_le _⟩ dX11_readDreams_1 ?_
  refine r_aload_n dX11_readDreams_4 0 rfl ?_
  obtain ⟨x5, e5, h⟩ := Sat_bind h
  refine r_getI fk_X11_186 rfl e5 dX11_readDreams_5 ?_
  refine r_iconst (v := 1) dX11_readDreams_8 (by decide) ?_
  refine r_icmp_eq 18 dX11_readDreams_9 (by decide) (fun c9 => ?_) (fun c9 => ?_)
  · have h := Sat_pos c9 h
    refine r_aload_n dX11_readDreams_18 0 rfl ?_
    obtain ⟨x19, e19, h⟩ := Sat_bind h
    refine r_cV (t := 12) [] [] (m_X11_named a0 x1 e19) ck_X11_named lk_X11_257 in_X11_named se_X11_named (kd_of e19) ⟨rfl, by decide, by decide⟩ rfl rfl (Nat.le_of_ble_eq_true rfl) ⟨by decide, by decide⟩ ⟨Nat.zero_le _, Nat.zero_le _⟩ dX11_readDreams_19 ?_
    refine r_istore_n (lv' := [(1, .int x19), (0, .ref a0)]) dX11_readDreams_22 rfl (by decide) rfl ?_
    refine r_iload_n dX11_readDreams_23 0 rfl ?_
    refine r_iconst (v := -1) dX11_readDreams_24 (by decide) ?_
    refine r_icmp_eq 46 dX11_readDreams_25 (by decide) (fun c25 => ?_) (fun c25 => ?_)
    · have h := Sat_pos c25 h
      exact r_sub [1, 0] rfl (J46 a0 x19 x1 h)
    · have h := Sat_neg c25 h
      refine r_aload_n dX11_readDreams_28 1 rfl ?_
      obtain ⟨x29, e29, h⟩ := Sat_bind h
      refine r_getP fk_X11_25 rfl e29 dX11_readDreams_29 ?_
      refine r_bipush (v := 8) dX11_readDreams_32 (by decide) ?_
      refine r_iload_n dX11_readDreams_34 0 rfl ?_
      refine r_iadd dX11_readDreams_35 ?_
      obtain ⟨x36, e36, h⟩ := Sat_bind h
      refine r_iaload e36 dX11_readDreams_36 ?_
      refine r_if_le 46 dX11_readDreams_37 (by decide) (fun c37 => ?_) (fun c37 => ?_)
      · have h := Sat_pos c37 h
        exact r_sub [1, 0] rfl (J46 a0 x19 x1 h)
      · have h := Sat_neg c37 h
        refine r_aload_n dX11_readDreams_40 1 rfl ?_
        refine r_iconst (v := 3) dX11_readDreams_41 (by decide) ?_
        obtain ⟨x42, e42, h⟩ := Sat_bind h
        refine r_cV (t := 12) [.int (3 : Int32)] [] (m_X11_fails a0 (3 : Int32) x1 e42) ck_X11_fails lk_X11_214 in_X11_fails se_X11_fails (kd_of e42) ⟨rfl, by decide, by decide⟩ rfl rfl (Nat.le_of_ble_eq_true rfl) ⟨by decide, by decide⟩ ⟨Nat.zero_le _, Nat.zero_le _⟩ dX11_readDreams_42 ?_
        obtain ⟨hz, h⟩ := Sat_ifp h
        exact r_zreturn rfl hz (by rw [← Sat_eq h]; exact ⟨rfl, rfl⟩) dX11_readDreams_45
  · have h := Sat_neg c9 h
    refine r_aload_n dX11_readDreams_12 0 rfl ?_
    refine r_iconst (v := 1) dX11_readDreams_13 (by decide) ?_
    obtain ⟨x14, e14, h⟩ := Sat_bind h
    refine r_cV (t := 12) [.int (1 : Int32)] [] (m_X11_fails a0 (1 : Int32) x1 e14) ck_X11_fails lk_X11_214 in_X11_fails se_X11_fails (kd_of e14) ⟨rfl, by decide, by decide⟩ rfl rfl (Nat.le_of_ble_eq_true rfl) ⟨by decide, by decide⟩ ⟨Nat.zero_le _, Nat.zero_le _⟩ dX11_readDreams_14 ?_
    obtain ⟨hz, h⟩ := Sat_ifp h
    exact r_zreturn rfl hz (by rw [← Sat_eq h]; exact ⟨rfl, rfl⟩) dX11_readDreams_17
theorem dX11_readPerson_0 : decode cX11_readPerson 0 = .ok (.aload_n 0, 1) := by decide +kernel
theorem dX11_readPerson_1 : decode cX11_readPerson 1 = .ok (.getfield 17, 3) := by decide +kernel
theorem dX11_readPerson_4 : decode cX11_readPerson 4 = .ok (.bipush 11, 2) := by decide +kernel
theorem dX11_readPerson_6 : decode cX11_readPerson 6 = .ok (.iaload, 1) := by decide +kernel
theorem dX11_readPerson_7 : decode cX11_readPerson 7 = .ok (.istore_n 1, 1) := by decide +kernel
theorem dX11_readPerson_8 : decode cX11_readPerson 8 = .ok (.iload_n 1, 1) := by decide +kernel
theorem dX11_readPerson_9 : decode cX11_readPerson 9 = .ok (.bipush 8, 2) := by decide +kernel
theorem dX11_readPerson_11 : decode cX11_readPerson 11 = .ok (.if_icmp .ne 9, 3) := by decide +kernel
theorem dX11_readPerson_14 : decode cX11_readPerson 14 = .ok (.aload_n 0, 1) := by decide +kernel
theorem dX11_readPerson_15 : decode cX11_readPerson 15 = .ok (.iconst 4, 1) := by decide +kernel
theorem dX11_readPerson_16 : decode cX11_readPerson 16 = .ok (.invokevirtual 214, 3) := by decide +kernel
theorem dX11_readPerson_19 : decode cX11_readPerson 19 = .ok (.ireturn, 1) := by decide +kernel
theorem dX11_readPerson_20 : decode cX11_readPerson 20 = .ok (.aload_n 0, 1) := by decide +kernel
theorem dX11_readPerson_21 : decode cX11_readPerson 21 = .ok (.invokevirtual 224, 3) := by decide +kernel
theorem dX11_readPerson_24 : decode cX11_readPerson 24 = .ok (.aload_n 0, 1) := by decide +kernel
theorem dX11_readPerson_25 : decode cX11_readPerson 25 = .ok (.getfield 186, 3) := by decide +kernel
theorem dX11_readPerson_28 : decode cX11_readPerson 28 = .ok (.iconst 1, 1) := by decide +kernel
theorem dX11_readPerson_29 : decode cX11_readPerson 29 = .ok (.if_icmp .eq 9, 3) := by decide +kernel
theorem dX11_readPerson_32 : decode cX11_readPerson 32 = .ok (.aload_n 0, 1) := by decide +kernel
theorem dX11_readPerson_33 : decode cX11_readPerson 33 = .ok (.iconst 1, 1) := by decide +kernel
theorem dX11_readPerson_34 : decode cX11_readPerson 34 = .ok (.invokevirtual 214, 3) := by decide +kernel
theorem dX11_readPerson_37 : decode cX11_readPerson 37 = .ok (.ireturn, 1) := by decide +kernel
theorem dX11_readPerson_38 : decode cX11_readPerson 38 = .ok (.aload_n 0, 1) := by decide +kernel
theorem dX11_readPerson_39 : decode cX11_readPerson 39 = .ok (.invokevirtual 257, 3) := by decide +kernel
theorem dX11_readPerson_42 : decode cX11_readPerson 42 = .ok (.iconst (-1), 1) := by decide +kernel
theorem dX11_readPerson_43 : decode cX11_readPerson 43 = .ok (.if_icmp .eq 9, 3) := by decide +kernel
theorem dX11_readPerson_46 : decode cX11_readPerson 46 = .ok (.aload_n 0, 1) := by decide +kernel
theorem dX11_readPerson_47 : decode cX11_readPerson 47 = .ok (.iconst 3, 1) := by decide +kernel
theorem dX11_readPerson_48 : decode cX11_readPerson 48 = .ok (.invokevirtual 214, 3) := by decide +kernel
theorem dX11_readPerson_51 : decode cX11_readPerson 51 = .ok (.ireturn, 1) := by decide +kernel
theorem dX11_readPerson_52 : decode cX11_readPerson 52 = .ok (.aload_n 0, 1) := by decide +kernel
theorem dX11_readPerson_53 : decode cX11_readPerson 53 = .ok (.getfield 21, 3) := by decide +kernel
theorem dX11_readPerson_56 : decode cX11_readPerson 56 = .ok (.iload_n 1, 1) := by decide +kernel
theorem dX11_readPerson_57 : decode cX11_readPerson 57 = .ok (.aload_n 0, 1) := by decide +kernel
theorem dX11_readPerson_58 : decode cX11_readPerson 58 = .ok (.getfield 193, 3) := by decide +kernel
theorem dX11_readPerson_61 : decode cX11_readPerson 61 = .ok (.lastore, 1) := by decide +kernel
theorem dX11_readPerson_62 : decode cX11_readPerson 62 = .ok (.aload_n 0, 1) := by decide +kernel
theorem dX11_readPerson_63 : decode cX11_readPerson 63 = .ok (.invokevirtual 224, 3) := by decide +kernel
theorem dX11_readPerson_66 : decode cX11_readPerson 66 = .ok (.aload_n 0, 1) := by decide +kernel
theorem dX11_readPerson_67 : decode cX11_readPerson 67 = .ok (.getfield 186, 3) := by decide +kernel
theorem dX11_readPerson_70 : decode cX11_readPerson 70 = .ok (.iconst 1, 1) := by decide +kernel
theorem dX11_readPerson_71 : decode cX11_readPerson 71 = .ok (.if_icmp .ne 29, 3) := by decide +kernel
theorem dX11_readPerson_74 : decode cX11_readPerson 74 = .ok (.aload_n 0, 1) := by decide +kernel
theorem dX11_readPerson_75 : decode cX11_readPerson 75 = .ok (.getfield 183, 3) := by decide +kernel
theorem dX11_readPerson_78 : decode cX11_readPerson 78 = .ok (.bipush 12, 2) := by decide +kernel
theorem dX11_readPerson_80 : decode cX11_readPerson 80 = .ok (.if_icmp .ne 20, 3) := by decide +kernel
theorem dX11_readPerson_83 : decode cX11_readPerson 83 = .ok (.aload_n 0, 1) := by decide +kernel
theorem dX11_readPerson_84 : decode cX11_readPerson 84 = .ok (.getfield 17, 3) := by decide +kernel
theorem dX11_readPerson_87 : decode cX11_readPerson 87 = .ok (.bipush 18, 2) := by decide +kernel
theorem dX11_readPerson_89 : decode cX11_readPerson 89 = .ok (.dup2, 1) := by decide +kernel
theorem dX11_readPerson_90 : decode cX11_readPerson 90 = .ok (.iaload, 1) := by decide +kernel
theorem dX11_readPerson_91 : decode cX11_readPerson 91 = .ok (.iconst 1, 1) := by decide +kernel
theorem dX11_readPerson_92 : decode cX11_readPerson 92 = .ok (.iload_n 1, 1) := by decide +kernel
theorem dX11_readPerson_93 : decode cX11_readPerson 93 = .ok (.ishl, 1) := by decide +kernel
theorem dX11_readPerson_94 : decode cX11_readPerson 94 = .ok (.ior, 1) := by decide +kernel
theorem dX11_readPerson_95 : decode cX11_readPerson 95 = .ok (.iastore, 1) := by decide +kernel
theorem dX11_readPerson_96 : decode cX11_readPerson 96 = .ok (.aload_n 0, 1) := by decide +kernel
theorem dX11_readPerson_97 : decode cX11_readPerson 97 = .ok (.invokevirtual 224, 3) := by decide +kernel
theorem dX11_readPerson_100 : decode cX11_readPerson 100 = .ok (.aload_n 0, 1) := by decide +kernel
theorem dX11_readPerson_101 : decode cX11_readPerson 101 = .ok (.getfield 17, 3) := by decide +kernel
theorem dX11_readPerson_104 : decode cX11_readPerson 104 = .ok (.bipush 11, 2) := by decide +kernel
theorem dX11_readPerson_106 : decode cX11_readPerson 106 = .ok (.dup2, 1) := by decide +kernel
theorem dX11_readPerson_107 : decode cX11_readPerson 107 = .ok (.iaload, 1) := by decide +kernel
theorem dX11_readPerson_108 : decode cX11_readPerson 108 = .ok (.iconst 1, 1) := by decide +kernel
theorem dX11_readPerson_109 : decode cX11_readPerson 109 = .ok (.iadd, 1) := by decide +kernel
theorem dX11_readPerson_110 : decode cX11_readPerson 110 = .ok (.iastore, 1) := by decide +kernel
theorem dX11_readPerson_111 : decode cX11_readPerson 111 = .ok (.iconst 1, 1) := by decide +kernel
theorem dX11_readPerson_112 : decode cX11_readPerson 112 = .ok (.ireturn, 1) := by decide +kernel
noncomputable def f_X11_readPerson_J100 (a0 : Nat) (μ : Mm) : Option (Int32 × Mm) :=
  (gf_P 12 12 a0 μ).bind fun x101 => (ga_I x101 (11 : Int32) μ).bind fun x107 => (pa_I x101 (11 : Int32) (x107 + (1 : Int32)) μ).bind fun μ110 => some ((1 : Int32), μ110)
noncomputable def f_X11_readPerson (a0 : Nat) (μ : Mm) : Option (Int32 × Mm) :=
  if (mm_K μ a0).1 = 12 then (gf_P 12 12 a0 μ).bind fun x1 => (ga_I x1 (11 : Int32) μ).bind fun x6 => if x6 = (8 : Int32) then (f_X11_fails a0 (4 : Int32) μ).bind fun x16 => if x16.1 = 0 ∨ x16.1 = 1 then some (x16.1, x16.2) else none else (f_X11_scan a0 μ).bind fun x21 => (gf_I 12 3 a0 x21).bind fun x25 => if x25 = (1 : Int32) then (f_X11_named a0 x21).bind fun x39 => if x39 = (-1 : Int32) then (gf_P 12 13 a0 x21).bind fun x53 => (gf_L 12 10 a0 x21).bind fun x58 => (pa_L x53 x6 x58 x21).bind fun μ61 => (f_X11_scan a0 μ61).bind fun x63 => (gf_I 12 3 a0 x63).bind fun x67 => if x67 = (1 : Int32) then (gf_I 12 4 a0 x63).bind fun x75 => if x75 = (12 : Int32) then (gf_P 12 12 a0 x63).bind fun x84 => (ga_I x84 (18 : Int32) x63).bind fun x90 => (pa_I x84 (18 : Int32) (x90 ||| ((1 : Int32) <<< (x6 &&& 31))) x63).bind fun μ95 => (f_X11_scan a0 μ95).bind fun x97 => f_X11_readPerson_J100 a0 x97 else f_X11_readPerson_J100 a0 x63 else f_X11_readPerson_J100 a0 x63 else (f_X11_fails a0 (3 : Int32) x21).bind fun x48 => if x48.1 = 0 ∨ x48.1 = 1 then some (x48.1, x48.2) else none else (f_X11_fails a0 (1 : Int32) x21).bind fun x34 => if x34.1 = 0 ∨ x34.1 = 1 then some (x34.1, x34.2) else none else none
abbrev Rn_X11_readPerson (G : Gv) (Q : Option Value → Mm → Prop) (pc : Nat) (lv : List (Nat × Value)) (st : List Value) (μ : Mm) : Prop := Rn G RX11 cX11_readPerson 2 (some .boolean) "readPerson" (rmd 6 0 0) (Zm G 0 0 Q) 0 0 pc lv st μ
set_option maxRecDepth 100000 in
set_option maxHeartbeats 4000000 in
theorem m_X11_readPerson {G : Gv} (a0 : Nat) (μ : Mm) {r : (Int32 × Mm)} (hx : f_X11_readPerson a0 μ = some r) : Mt G yX11_readPerson cX11_readPerson 2 (some .boolean) 6 0 0 [.ref a0] μ (fun v μ' => v = some (.int r.1) ∧ μ' = r.2) := by
  refine Mt.of (by decide) (Nat.le_of_ble_eq_true rfl) ?_
  show Rn_X11_readPerson G (fun v μ' => v = some (.int r.1) ∧ μ' = r.2) 0 [(0, .ref a0)] [] μ
  obtain ⟨_, h⟩ := Sat_ifp (show Sat (f_X11_readPerson a0 μ) (fun x => x = r) from ⟨_, hx, rfl⟩)
  have J100 : ∀ (a0_100 : Nat) (μ_100 : Mm), Sat (f_X11_readPerson_J100 a0_100 μ_100) (fun x => x = r) → Rn_X11_readPerson G (fun v μ' => v = some (.int r.1) ∧ μ' = r.2) 100 [(0, .ref a0_100)] [] μ_100 := by
    intro a0_100 μ_100 h
    refine r_aload_n dX11_readPerson_100 0 rfl ?_
    obtain ⟨x101, e101, h⟩ := Sat_bind h
    refine r_getP fk_X11_17 rfl e101 dX11_readPerson_101 ?_
    refine r_bipush (v := 11) dX11_readPerson_104 (by decide) ?_
    refine r_dup2_11 dX11_readPerson_106 rfl rfl ?_
    obtain ⟨x107, e107, h⟩ := Sat_bind h
    refine r_iaload e107 dX11_readPerson_107 ?_
    refine r_iconst (v := 1) dX11_readPerson_108 (by decide) ?_
    refine r_iadd dX11_readPerson_109 ?_
    obtain ⟨μ110, e110, h⟩ := Sat_bind h
    refine r_iastore e110 dX11_readPerson_110 ?_
    refine r_iconst (v := 1) dX11_readPerson_111 (by decide) ?_
    exact r_zreturn rfl (by decide) (by rw [← Sat_eq h]; exact ⟨rfl, rfl⟩) dX11_readPerson_112
  refine r_aload_n dX11_readPerson_0 0 rfl ?_
  obtain ⟨x1, e1, h⟩ := Sat_bind h
  refine r_getP fk_X11_17 rfl e1 dX11_readPerson_1 ?_
  refine r_bipush (v := 11) dX11_readPerson_4 (by decide) ?_
  obtain ⟨x6, e6, h⟩ := Sat_bind h
  refine r_iaload e6 dX11_readPerson_6 ?_
  refine r_istore_n (lv' := [(1, .int x6), (0, .ref a0)]) dX11_readPerson_7 rfl (by decide) rfl ?_
  refine r_iload_n dX11_readPerson_8 0 rfl ?_
  refine r_bipush (v := 8) dX11_readPerson_9 (by decide) ?_
  refine r_icmp_ne 20 dX11_readPerson_11 (by decide) (fun c11 => ?_) (fun c11 => ?_)
  · have h := Sat_neg c11 h
    refine r_aload_n dX11_readPerson_20 1 rfl ?_
    obtain ⟨x21, e21, h⟩ := Sat_bind h
    refine r_cV (t := 12) [] [] (m_X11_scan a0 μ e21) ck_X11_scan lk_X11_224 in_X11_scan se_X11_scan (kd_of e21) ⟨rfl, by decide, by decide⟩ rfl rfl (Nat.le_of_ble_eq_true rfl) ⟨by decide, by decide⟩ ⟨Nat.zero_le _, Nat.zero_le _⟩ dX11_readPerson_21 ?_
    refine r_aload_n dX11_readPerson_24 1 rfl ?_
    obtain ⟨x25, e25, h⟩ := Sat_bind h
    refine r_getI fk_X11_186 rfl e25 dX11_readPerson_25 ?_
    refine r_iconst (v := 1) dX11_readPerson_28 (by decide) ?_
    refine r_icmp_eq 38 dX11_readPerson_29 (by decide) (fun c29 => ?_) (fun c29 => ?_)
    · have h := Sat_pos c29 h
      refine r_aload_n dX11_readPerson_38 1 rfl ?_
      obtain ⟨x39, e39, h⟩ := Sat_bind h
      refine r_cV (t := 12) [] [] (m_X11_named a0 x21 e39) ck_X11_named lk_X11_257 in_X11_named se_X11_named (kd_of e39) ⟨rfl, by decide, by decide⟩ rfl rfl (Nat.le_of_ble_eq_true rfl) ⟨by decide, by decide⟩ ⟨Nat.zero_le _, Nat.zero_le _⟩ dX11_readPerson_39 ?_
      refine r_iconst (v := -1) dX11_readPerson_42 (by decide) ?_
      refine r_icmp_eq 52 dX11_readPerson_43 (by decide) (fun c43 => ?_) (fun c43 => ?_)
      · have h := Sat_pos c43 h
        refine r_aload_n dX11_readPerson_52 1 rfl ?_
        obtain ⟨x53, e53, h⟩ := Sat_bind h
        refine r_getP fk_X11_21 rfl e53 dX11_readPerson_53 ?_
        refine r_iload_n dX11_readPerson_56 0 rfl ?_
        refine r_aload_n dX11_readPerson_57 1 rfl ?_
        obtain ⟨x58, e58, h⟩ := Sat_bind h
        refine r_getL fk_X11_193 rfl e58 dX11_readPerson_58 ?_
        obtain ⟨μ61, e61, h⟩ := Sat_bind h
        refine r_lastore e61 dX11_readPerson_61 ?_
        refine r_aload_n dX11_readPerson_62 1 rfl ?_
        obtain ⟨x63, e63, h⟩ := Sat_bind h
        refine r_cV (t := 12) [] [] (m_X11_scan a0 μ61 e63) ck_X11_scan lk_X11_224 in_X11_scan se_X11_scan (kd_of e63) ⟨rfl, by decide, by decide⟩ rfl rfl (Nat.le_of_ble_eq_true rfl) ⟨by decide, by decide⟩ ⟨Nat.zero_le _, Nat.zero_le _⟩ dX11_readPerson_63 ?_
        refine r_aload_n dX11_readPerson_66 1 rfl ?_
        obtain ⟨x67, e67, h⟩ := Sat_bind h
        refine r_getI fk_X11_186 rfl e67 dX11_readPerson_67 ?_
        refine r_iconst (v := 1) dX11_readPerson_70 (by decide) ?_
        refine r_icmp_ne 100 dX11_readPerson_71 (by decide) (fun c71 => ?_) (fun c71 => ?_)
        · have h := Sat_neg c71 h
          exact r_sub [1] rfl (J100 a0 x63 h)
        · have h := Sat_pos c71 h
          refine r_aload_n dX11_readPerson_74 1 rfl ?_
          obtain ⟨x75, e75, h⟩ := Sat_bind h
          refine r_getI fk_X11_183 rfl e75 dX11_readPerson_75 ?_
          refine r_bipush (v := 12) dX11_readPerson_78 (by decide) ?_
          refine r_icmp_ne 100 dX11_readPerson_80 (by decide) (fun c80 => ?_) (fun c80 => ?_)
          · have h := Sat_neg c80 h
            exact r_sub [1] rfl (J100 a0 x63 h)
          · have h := Sat_pos c80 h
            refine r_aload_n dX11_readPerson_83 1 rfl ?_
            obtain ⟨x84, e84, h⟩ := Sat_bind h
            refine r_getP fk_X11_17 rfl e84 dX11_readPerson_84 ?_
            refine r_bipush (v := 18) dX11_readPerson_87 (by decide) ?_
            refine r_dup2_11 dX11_readPerson_89 rfl rfl ?_
            obtain ⟨x90, e90, h⟩ := Sat_bind h
            refine r_iaload e90 dX11_readPerson_90 ?_
            refine r_iconst (v := 1) dX11_readPerson_91 (by decide) ?_
            refine r_iload_n dX11_readPerson_92 0 rfl ?_
            refine r_ishl dX11_readPerson_93 ?_
            refine r_ior dX11_readPerson_94 ?_
            obtain ⟨μ95, e95, h⟩ := Sat_bind h
            refine r_iastore e95 dX11_readPerson_95 ?_
            refine r_aload_n dX11_readPerson_96 1 rfl ?_
            obtain ⟨x97, e97, h⟩ := Sat_bind h
            refine r_cV (t := 12) [] [] (m_X11_scan a0 μ95 e97) ck_X11_scan lk_X11_224 in_X11_scan se_X11_scan (kd_of e97) ⟨rfl, by decide, by decide⟩ rfl rfl (Nat.le_of_ble_eq_true rfl) ⟨by decide, by decide⟩ ⟨Nat.zero_le _, Nat.zero_le _⟩ dX11_readPerson_97 ?_
            exact r_sub [1] rfl (J100 a0 x97 h)
      · have h := Sat_neg c43 h
        refine r_aload_n dX11_readPerson_46 1 rfl ?_
        refine r_iconst (v := 3) dX11_readPerson_47 (by decide) ?_
        obtain ⟨x48, e48, h⟩ := Sat_bind h
        refine r_cV (t := 12) [.int (3 : Int32)] [] (m_X11_fails a0 (3 : Int32) x21 e48) ck_X11_fails lk_X11_214 in_X11_fails se_X11_fails (kd_of e48) ⟨rfl, by decide, by decide⟩ rfl rfl (Nat.le_of_ble_eq_true rfl) ⟨by decide, by decide⟩ ⟨Nat.zero_le _, Nat.zero_le _⟩ dX11_readPerson_48 ?_
        obtain ⟨hz, h⟩ := Sat_ifp h
        exact r_zreturn rfl hz (by rw [← Sat_eq h]; exact ⟨rfl, rfl⟩) dX11_readPerson_51
    · have h := Sat_neg c29 h
      refine r_aload_n dX11_readPerson_32 1 rfl ?_
      refine r_iconst (v := 1) dX11_readPerson_33 (by decide) ?_
      obtain ⟨x34, e34, h⟩ := Sat_bind h
      refine r_cV (t := 12) [.int (1 : Int32)] [] (m_X11_fails a0 (1 : Int32) x21 e34) ck_X11_fails lk_X11_214 in_X11_fails se_X11_fails (kd_of e34) ⟨rfl, by decide, by decide⟩ rfl rfl (Nat.le_of_ble_eq_true rfl) ⟨by decide, by decide⟩ ⟨Nat.zero_le _, Nat.zero_le _⟩ dX11_readPerson_34 ?_
      obtain ⟨hz, h⟩ := Sat_ifp h
      exact r_zreturn rfl hz (by rw [← Sat_eq h]; exact ⟨rfl, rfl⟩) dX11_readPerson_37
  · have h := Sat_pos c11 h
    refine r_aload_n dX11_readPerson_14 1 rfl ?_
    refine r_iconst (v := 4) dX11_readPerson_15 (by decide) ?_
    obtain ⟨x16, e16, h⟩ := Sat_bind h
    refine r_cV (t := 12) [.int (4 : Int32)] [] (m_X11_fails a0 (4 : Int32) μ e16) ck_X11_fails lk_X11_214 in_X11_fails se_X11_fails (kd_of e16) ⟨rfl, by decide, by decide⟩ rfl rfl (Nat.le_of_ble_eq_true rfl) ⟨by decide, by decide⟩ ⟨Nat.zero_le _, Nat.zero_le _⟩ dX11_readPerson_16 ?_
    obtain ⟨hz, h⟩ := Sat_ifp h
    exact r_zreturn rfl hz (by rw [← Sat_eq h]; exact ⟨rfl, rfl⟩) dX11_readPerson_19
theorem dX11_readTalk_0 : decode cX11_readTalk 0 = .ok (.aload_n 0, 1) := by decide +kernel
theorem dX11_readTalk_1 : decode cX11_readTalk 1 = .ok (.getfield 17, 3) := by decide +kernel
theorem dX11_readTalk_4 : decode cX11_readTalk 4 = .ok (.bipush 13, 2) := by decide +kernel
theorem dX11_readTalk_6 : decode cX11_readTalk 6 = .ok (.iaload, 1) := by decide +kernel
theorem dX11_readTalk_7 : decode cX11_readTalk 7 = .ok (.istore_n 1, 1) := by decide +kernel
theorem dX11_readTalk_8 : decode cX11_readTalk 8 = .ok (.iload_n 1, 1) := by decide +kernel
theorem dX11_readTalk_9 : decode cX11_readTalk 9 = .ok (.bipush 8, 2) := by decide +kernel
theorem dX11_readTalk_11 : decode cX11_readTalk 11 = .ok (.if_icmp .ne 9, 3) := by decide +kernel
theorem dX11_readTalk_14 : decode cX11_readTalk 14 = .ok (.aload_n 0, 1) := by decide +kernel
theorem dX11_readTalk_15 : decode cX11_readTalk 15 = .ok (.iconst 4, 1) := by decide +kernel
theorem dX11_readTalk_16 : decode cX11_readTalk 16 = .ok (.invokevirtual 214, 3) := by decide +kernel
theorem dX11_readTalk_19 : decode cX11_readTalk 19 = .ok (.ireturn, 1) := by decide +kernel
theorem dX11_readTalk_20 : decode cX11_readTalk 20 = .ok (.aload_n 0, 1) := by decide +kernel
theorem dX11_readTalk_21 : decode cX11_readTalk 21 = .ok (.invokevirtual 224, 3) := by decide +kernel
theorem dX11_readTalk_24 : decode cX11_readTalk 24 = .ok (.aload_n 0, 1) := by decide +kernel
theorem dX11_readTalk_25 : decode cX11_readTalk 25 = .ok (.aload_n 0, 1) := by decide +kernel
theorem dX11_readTalk_26 : decode cX11_readTalk 26 = .ok (.getfield 34, 3) := by decide +kernel
theorem dX11_readTalk_29 : decode cX11_readTalk 29 = .ok (.bipush 8, 2) := by decide +kernel
theorem dX11_readTalk_31 : decode cX11_readTalk 31 = .ok (.iload_n 1, 1) := by decide +kernel
theorem dX11_readTalk_32 : decode cX11_readTalk 32 = .ok (.iadd, 1) := by decide +kernel
theorem dX11_readTalk_33 : decode cX11_readTalk 33 = .ok (.invokevirtual 270, 3) := by decide +kernel
theorem dX11_readTalk_36 : decode cX11_readTalk 36 = .ok (.ifCond .ne 5, 3) := by decide +kernel
theorem dX11_readTalk_39 : decode cX11_readTalk 39 = .ok (.iconst 0, 1) := by decide +kernel
theorem dX11_readTalk_40 : decode cX11_readTalk 40 = .ok (.ireturn, 1) := by decide +kernel
theorem dX11_readTalk_41 : decode cX11_readTalk 41 = .ok (.aload_n 0, 1) := by decide +kernel
theorem dX11_readTalk_42 : decode cX11_readTalk 42 = .ok (.getfield 186, 3) := by decide +kernel
theorem dX11_readTalk_45 : decode cX11_readTalk 45 = .ok (.iconst 1, 1) := by decide +kernel
theorem dX11_readTalk_46 : decode cX11_readTalk 46 = .ok (.if_icmp .eq 9, 3) := by decide +kernel
theorem dX11_readTalk_49 : decode cX11_readTalk 49 = .ok (.aload_n 0, 1) := by decide +kernel
theorem dX11_readTalk_50 : decode cX11_readTalk 50 = .ok (.iconst 1, 1) := by decide +kernel
theorem dX11_readTalk_51 : decode cX11_readTalk 51 = .ok (.invokevirtual 214, 3) := by decide +kernel
theorem dX11_readTalk_54 : decode cX11_readTalk 54 = .ok (.ireturn, 1) := by decide +kernel
theorem dX11_readTalk_55 : decode cX11_readTalk 55 = .ok (.aload_n 0, 1) := by decide +kernel
theorem dX11_readTalk_56 : decode cX11_readTalk 56 = .ok (.invokevirtual 257, 3) := by decide +kernel
theorem dX11_readTalk_59 : decode cX11_readTalk 59 = .ok (.aload_n 0, 1) := by decide +kernel
theorem dX11_readTalk_60 : decode cX11_readTalk 60 = .ok (.getfield 34, 3) := by decide +kernel
theorem dX11_readTalk_63 : decode cX11_readTalk 63 = .ok (.bipush 8, 2) := by decide +kernel
theorem dX11_readTalk_65 : decode cX11_readTalk 65 = .ok (.iload_n 1, 1) := by decide +kernel
theorem dX11_readTalk_66 : decode cX11_readTalk 66 = .ok (.iadd, 1) := by decide +kernel
theorem dX11_readTalk_67 : decode cX11_readTalk 67 = .ok (.iaload, 1) := by decide +kernel
theorem dX11_readTalk_68 : decode cX11_readTalk 68 = .ok (.if_icmp .ne 9, 3) := by decide +kernel
theorem dX11_readTalk_71 : decode cX11_readTalk 71 = .ok (.aload_n 0, 1) := by decide +kernel
theorem dX11_readTalk_72 : decode cX11_readTalk 72 = .ok (.iconst 3, 1) := by decide +kernel
theorem dX11_readTalk_73 : decode cX11_readTalk 73 = .ok (.invokevirtual 214, 3) := by decide +kernel
theorem dX11_readTalk_76 : decode cX11_readTalk 76 = .ok (.ireturn, 1) := by decide +kernel
theorem dX11_readTalk_77 : decode cX11_readTalk 77 = .ok (.aload_n 0, 1) := by decide +kernel
theorem dX11_readTalk_78 : decode cX11_readTalk 78 = .ok (.aload_n 0, 1) := by decide +kernel
theorem dX11_readTalk_79 : decode cX11_readTalk 79 = .ok (.getfield 37, 3) := by decide +kernel
theorem dX11_readTalk_82 : decode cX11_readTalk 82 = .ok (.bipush 8, 2) := by decide +kernel
theorem dX11_readTalk_84 : decode cX11_readTalk 84 = .ok (.iload_n 1, 1) := by decide +kernel
theorem dX11_readTalk_85 : decode cX11_readTalk 85 = .ok (.iadd, 1) := by decide +kernel
theorem dX11_readTalk_86 : decode cX11_readTalk 86 = .ok (.invokevirtual 270, 3) := by decide +kernel
theorem dX11_readTalk_89 : decode cX11_readTalk 89 = .ok (.ifCond .eq 21, 3) := by decide +kernel
theorem dX11_readTalk_92 : decode cX11_readTalk 92 = .ok (.aload_n 0, 1) := by decide +kernel
theorem dX11_readTalk_93 : decode cX11_readTalk 93 = .ok (.aload_n 0, 1) := by decide +kernel
theorem dX11_readTalk_94 : decode cX11_readTalk 94 = .ok (.getfield 40, 3) := by decide +kernel
theorem dX11_readTalk_97 : decode cX11_readTalk 97 = .ok (.bipush 8, 2) := by decide +kernel
theorem dX11_readTalk_99 : decode cX11_readTalk 99 = .ok (.iload_n 1, 1) := by decide +kernel
theorem dX11_readTalk_100 : decode cX11_readTalk 100 = .ok (.iadd, 1) := by decide +kernel
theorem dX11_readTalk_101 : decode cX11_readTalk 101 = .ok (.iconst 1, 1) := by decide +kernel
theorem dX11_readTalk_102 : decode cX11_readTalk 102 = .ok (.bipush 28, 2) := by decide +kernel
theorem dX11_readTalk_104 : decode cX11_readTalk 104 = .ok (.invokevirtual 274, 3) := by decide +kernel
theorem dX11_readTalk_107 : decode cX11_readTalk 107 = .ok (.ifCond .ne 5, 3) := by decide +kernel
theorem dX11_readTalk_110 : decode cX11_readTalk 110 = .ok (.iconst 0, 1) := by decide +kernel
theorem dX11_readTalk_111 : decode cX11_readTalk 111 = .ok (.ireturn, 1) := by decide +kernel
theorem dX11_readTalk_112 : decode cX11_readTalk 112 = .ok (.aload_n 0, 1) := by decide +kernel
theorem dX11_readTalk_113 : decode cX11_readTalk 113 = .ok (.getfield 17, 3) := by decide +kernel
theorem dX11_readTalk_116 : decode cX11_readTalk 116 = .ok (.bipush 13, 2) := by decide +kernel
theorem dX11_readTalk_118 : decode cX11_readTalk 118 = .ok (.dup2, 1) := by decide +kernel
theorem dX11_readTalk_119 : decode cX11_readTalk 119 = .ok (.iaload, 1) := by decide +kernel
theorem dX11_readTalk_120 : decode cX11_readTalk 120 = .ok (.iconst 1, 1) := by decide +kernel
theorem dX11_readTalk_121 : decode cX11_readTalk 121 = .ok (.iadd, 1) := by decide +kernel
theorem dX11_readTalk_122 : decode cX11_readTalk 122 = .ok (.iastore, 1) := by decide +kernel
theorem dX11_readTalk_123 : decode cX11_readTalk 123 = .ok (.iconst 1, 1) := by decide +kernel
theorem dX11_readTalk_124 : decode cX11_readTalk 124 = .ok (.ireturn, 1) := by decide +kernel
noncomputable def f_X11_readTalk (a0 : Nat) (μ : Mm) : Option (Int32 × Mm) :=
  if (mm_K μ a0).1 = 12 then (gf_P 12 12 a0 μ).bind fun x1 => (ga_I x1 (13 : Int32) μ).bind fun x6 => if x6 = (8 : Int32) then (f_X11_fails a0 (4 : Int32) μ).bind fun x16 => if x16.1 = 0 ∨ x16.1 = 1 then some (x16.1, x16.2) else none else (f_X11_scan a0 μ).bind fun x21 => (gf_P 12 17 a0 x21).bind fun x26 => (f_X11_readWho a0 x26 ((8 : Int32) + x6) x21).bind fun x33 => if x33.1 = 0 then some ((0 : Int32), x33.2) else (gf_I 12 3 a0 x33.2).bind fun x42 => if x42 = (1 : Int32) then (f_X11_named a0 x33.2).bind fun x56 => (gf_P 12 17 a0 x33.2).bind fun x60 => (ga_I x60 ((8 : Int32) + x6) x33.2).bind fun x67 => if x56 = x67 then (f_X11_fails a0 (3 : Int32) x33.2).bind fun x73 => if x73.1 = 0 ∨ x73.1 = 1 then some (x73.1, x73.2) else none else (gf_P 12 18 a0 x33.2).bind fun x79 => (f_X11_readWho a0 x79 ((8 : Int32) + x6) x33.2).bind fun x86 => if x86.1 = 0 then some ((0 : Int32), x86.2) else (gf_P 12 19 a0 x86.2).bind fun x94 => (f_X11_readInto a0 x94 ((8 : Int32) + x6) (1 : Int32) (28 : Int32) x86.2).bind fun x104 => if x104.1 = 0 then some ((0 : Int32), x104.2) else (gf_P 12 12 a0 x104.2).bind fun x113 => (ga_I x113 (13 : Int32) x104.2).bind fun x119 => (pa_I x113 (13 : Int32) (x119 + (1 : Int32)) x104.2).bind fun μ122 => some ((1 : Int32), μ122) else (f_X11_fails a0 (1 : Int32) x33.2).bind fun x51 => if x51.1 = 0 ∨ x51.1 = 1 then some (x51.1, x51.2) else none else none
abbrev Rn_X11_readTalk (G : Gv) (Q : Option Value → Mm → Prop) (pc : Nat) (lv : List (Nat × Value)) (st : List Value) (μ : Mm) : Prop := Rn G RX11 cX11_readTalk 2 (some .boolean) "readTalk" (rmd 8 0 0) (Zm G 0 0 Q) 0 0 pc lv st μ
set_option maxRecDepth 100000 in
set_option maxHeartbeats 4000000 in
theorem m_X11_readTalk {G : Gv} (a0 : Nat) (μ : Mm) {r : (Int32 × Mm)} (hx : f_X11_readTalk a0 μ = some r) : Mt G yX11_readTalk cX11_readTalk 2 (some .boolean) 8 0 0 [.ref a0] μ (fun v μ' => v = some (.int r.1) ∧ μ' = r.2) := by
  refine Mt.of (by decide) (Nat.le_of_ble_eq_true rfl) ?_
  show Rn_X11_readTalk G (fun v μ' => v = some (.int r.1) ∧ μ' = r.2) 0 [(0, .ref a0)] [] μ
  obtain ⟨_, h⟩ := Sat_ifp (show Sat (f_X11_readTalk a0 μ) (fun x => x = r) from ⟨_, hx, rfl⟩)
  refine r_aload_n dX11_readTalk_0 0 rfl ?_
  obtain ⟨x1, e1, h⟩ := Sat_bind h
  refine r_getP fk_X11_17 rfl e1 dX11_readTalk_1 ?_
  refine r_bipush (v := 13) dX11_readTalk_4 (by decide) ?_
  obtain ⟨x6, e6, h⟩ := Sat_bind h
  refine r_iaload e6 dX11_readTalk_6 ?_
  refine r_istore_n (lv' := [(1, .int x6), (0, .ref a0)]) dX11_readTalk_7 rfl (by decide) rfl ?_
  refine r_iload_n dX11_readTalk_8 0 rfl ?_
  refine r_bipush (v := 8) dX11_readTalk_9 (by decide) ?_
  refine r_icmp_ne 20 dX11_readTalk_11 (by decide) (fun c11 => ?_) (fun c11 => ?_)
  · have h := Sat_neg c11 h
    refine r_aload_n dX11_readTalk_20 1 rfl ?_
    obtain ⟨x21, e21, h⟩ := Sat_bind h
    refine r_cV (t := 12) [] [] (m_X11_scan a0 μ e21) ck_X11_scan lk_X11_224 in_X11_scan se_X11_scan (kd_of e21) ⟨rfl, by decide, by decide⟩ rfl rfl (Nat.le_of_ble_eq_true rfl) ⟨by decide, by decide⟩ ⟨Nat.zero_le _, Nat.zero_le _⟩ dX11_readTalk_21 ?_
    refine r_aload_n dX11_readTalk_24 1 rfl ?_
    refine r_aload_n dX11_readTalk_25 1 rfl ?_
    obtain ⟨x26, e26, h⟩ := Sat_bind h
    refine r_getP fk_X11_34 rfl e26 dX11_readTalk_26 ?_
    refine r_bipush (v := 8) dX11_readTalk_29 (by decide) ?_
    refine r_iload_n dX11_readTalk_31 0 rfl ?_
    refine r_iadd dX11_readTalk_32 ?_
    obtain ⟨x33, e33, h⟩ := Sat_bind h
    refine r_cV (t := 12) [.ref x26, .int ((8 : Int32) + x6)] [] (m_X11_readWho a0 x26 ((8 : Int32) + x6) x21 e33) ck_X11_readWho lk_X11_270 in_X11_readWho se_X11_readWho (kd_of e33) ⟨rfl, by decide, by decide⟩ rfl rfl (Nat.le_of_ble_eq_true rfl) ⟨by decide, by decide⟩ ⟨Nat.zero_le _, Nat.zero_le _⟩ dX11_readTalk_33 ?_
    refine r_if_ne 41 dX11_readTalk_36 (by decide) (fun c36 => ?_) (fun c36 => ?_)
    · have h := Sat_neg c36 h
      refine r_aload_n dX11_readTalk_41 1 rfl ?_
      obtain ⟨x42, e42, h⟩ := Sat_bind h
      refine r_getI fk_X11_186 rfl e42 dX11_readTalk_42 ?_
      refine r_iconst (v := 1) dX11_readTalk_45 (by decide) ?_
      refine r_icmp_eq 55 dX11_readTalk_46 (by decide) (fun c46 => ?_) (fun c46 => ?_)
      · have h := Sat_pos c46 h
        refine r_aload_n dX11_readTalk_55 1 rfl ?_
        obtain ⟨x56, e56, h⟩ := Sat_bind h
        refine r_cV (t := 12) [] [] (m_X11_named a0 x33.2 e56) ck_X11_named lk_X11_257 in_X11_named se_X11_named (kd_of e56) ⟨rfl, by decide, by decide⟩ rfl rfl (Nat.le_of_ble_eq_true rfl) ⟨by decide, by decide⟩ ⟨Nat.zero_le _, Nat.zero_le _⟩ dX11_readTalk_56 ?_
        refine r_aload_n dX11_readTalk_59 1 rfl ?_
        obtain ⟨x60, e60, h⟩ := Sat_bind h
        refine r_getP fk_X11_34 rfl e60 dX11_readTalk_60 ?_
        refine r_bipush (v := 8) dX11_readTalk_63 (by decide) ?_
        refine r_iload_n dX11_readTalk_65 0 rfl ?_
        refine r_iadd dX11_readTalk_66 ?_
        obtain ⟨x67, e67, h⟩ := Sat_bind h
        refine r_iaload e67 dX11_readTalk_67 ?_
        refine r_icmp_ne 77 dX11_readTalk_68 (by decide) (fun c68 => ?_) (fun c68 => ?_)
        · have h := Sat_neg c68 h
          refine r_aload_n dX11_readTalk_77 1 rfl ?_
          refine r_aload_n dX11_readTalk_78 1 rfl ?_
          obtain ⟨x79, e79, h⟩ := Sat_bind h
          refine r_getP fk_X11_37 rfl e79 dX11_readTalk_79 ?_
          refine r_bipush (v := 8) dX11_readTalk_82 (by decide) ?_
          refine r_iload_n dX11_readTalk_84 0 rfl ?_
          refine r_iadd dX11_readTalk_85 ?_
          obtain ⟨x86, e86, h⟩ := Sat_bind h
          refine r_cV (t := 12) [.ref x79, .int ((8 : Int32) + x6)] [] (m_X11_readWho a0 x79 ((8 : Int32) + x6) x33.2 e86) ck_X11_readWho lk_X11_270 in_X11_readWho se_X11_readWho (kd_of e86) ⟨rfl, by decide, by decide⟩ rfl rfl (Nat.le_of_ble_eq_true rfl) ⟨by decide, by decide⟩ ⟨Nat.zero_le _, Nat.zero_le _⟩ dX11_readTalk_86 ?_
          refine r_if_eq 110 dX11_readTalk_89 (by decide) (fun c89 => ?_) (fun c89 => ?_)
          · have h := Sat_pos c89 h
            refine r_iconst (v := 0) dX11_readTalk_110 (by decide) ?_
            exact r_zreturn rfl (by decide) (by rw [← Sat_eq h]; exact ⟨rfl, rfl⟩) dX11_readTalk_111
          · have h := Sat_neg c89 h
            refine r_aload_n dX11_readTalk_92 1 rfl ?_
            refine r_aload_n dX11_readTalk_93 1 rfl ?_
            obtain ⟨x94, e94, h⟩ := Sat_bind h
            refine r_getP fk_X11_40 rfl e94 dX11_readTalk_94 ?_
            refine r_bipush (v := 8) dX11_readTalk_97 (by decide) ?_
            refine r_iload_n dX11_readTalk_99 0 rfl ?_
            refine r_iadd dX11_readTalk_100 ?_
            refine r_iconst (v := 1) dX11_readTalk_101 (by decide) ?_
            refine r_bipush (v := 28) dX11_readTalk_102 (by decide) ?_
            obtain ⟨x104, e104, h⟩ := Sat_bind h
            refine r_cV (t := 12) [.ref x94, .int ((8 : Int32) + x6), .int (1 : Int32), .int (28 : Int32)] [] (m_X11_readInto a0 x94 ((8 : Int32) + x6) (1 : Int32) (28 : Int32) x86.2 e104) ck_X11_readInto lk_X11_274 in_X11_readInto se_X11_readInto (kd_of e104) ⟨rfl, by decide, by decide⟩ rfl rfl (Nat.le_of_ble_eq_true rfl) ⟨by decide, by decide⟩ ⟨Nat.zero_le _, Nat.zero_le _⟩ dX11_readTalk_104 ?_
            refine r_if_ne 112 dX11_readTalk_107 (by decide) (fun c107 => ?_) (fun c107 => ?_)
            · have h := Sat_neg c107 h
              refine r_aload_n dX11_readTalk_112 1 rfl ?_
              obtain ⟨x113, e113, h⟩ := Sat_bind h
              refine r_getP fk_X11_17 rfl e113 dX11_readTalk_113 ?_
              refine r_bipush (v := 13) dX11_readTalk_116 (by decide) ?_
              refine r_dup2_11 dX11_readTalk_118 rfl rfl ?_
              obtain ⟨x119, e119, h⟩ := Sat_bind h
              refine r_iaload e119 dX11_readTalk_119 ?_
              refine r_iconst (v := 1) dX11_readTalk_120 (by decide) ?_
              refine r_iadd dX11_readTalk_121 ?_
              obtain ⟨μ122, e122, h⟩ := Sat_bind h
              refine r_iastore e122 dX11_readTalk_122 ?_
              refine r_iconst (v := 1) dX11_readTalk_123 (by decide) ?_
              exact r_zreturn rfl (by decide) (by rw [← Sat_eq h]; exact ⟨rfl, rfl⟩) dX11_readTalk_124
            · have h := Sat_pos c107 h
              refine r_iconst (v := 0) dX11_readTalk_110 (by decide) ?_
              exact r_zreturn rfl (by decide) (by rw [← Sat_eq h]; exact ⟨rfl, rfl⟩) dX11_readTalk_111
        · have h := Sat_pos c68 h
          refine r_aload_n dX11_readTalk_71 1 rfl ?_
          refine r_iconst (v := 3) dX11_readTalk_72 (by decide) ?_
          obtain ⟨x73, e73, h⟩ := Sat_bind h
          refine r_cV (t := 12) [.int (3 : Int32)] [] (m_X11_fails a0 (3 : Int32) x33.2 e73) ck_X11_fails lk_X11_214 in_X11_fails se_X11_fails (kd_of e73) ⟨rfl, by decide, by decide⟩ rfl rfl (Nat.le_of_ble_eq_true rfl) ⟨by decide, by decide⟩ ⟨Nat.zero_le _, Nat.zero_le _⟩ dX11_readTalk_73 ?_
          obtain ⟨hz, h⟩ := Sat_ifp h
          exact r_zreturn rfl hz (by rw [← Sat_eq h]; exact ⟨rfl, rfl⟩) dX11_readTalk_76
      · have h := Sat_neg c46 h
        refine r_aload_n dX11_readTalk_49 1 rfl ?_
        refine r_iconst (v := 1) dX11_readTalk_50 (by decide) ?_
        obtain ⟨x51, e51, h⟩ := Sat_bind h
        refine r_cV (t := 12) [.int (1 : Int32)] [] (m_X11_fails a0 (1 : Int32) x33.2 e51) ck_X11_fails lk_X11_214 in_X11_fails se_X11_fails (kd_of e51) ⟨rfl, by decide, by decide⟩ rfl rfl (Nat.le_of_ble_eq_true rfl) ⟨by decide, by decide⟩ ⟨Nat.zero_le _, Nat.zero_le _⟩ dX11_readTalk_51 ?_
        obtain ⟨hz, h⟩ := Sat_ifp h
        exact r_zreturn rfl hz (by rw [← Sat_eq h]; exact ⟨rfl, rfl⟩) dX11_readTalk_54
    · have h := Sat_pos c36 h
      refine r_iconst (v := 0) dX11_readTalk_39 (by decide) ?_
      exact r_zreturn rfl (by decide) (by rw [← Sat_eq h]; exact ⟨rfl, rfl⟩) dX11_readTalk_40
  · have h := Sat_pos c11 h
    refine r_aload_n dX11_readTalk_14 1 rfl ?_
    refine r_iconst (v := 4) dX11_readTalk_15 (by decide) ?_
    obtain ⟨x16, e16, h⟩ := Sat_bind h
    refine r_cV (t := 12) [.int (4 : Int32)] [] (m_X11_fails a0 (4 : Int32) μ e16) ck_X11_fails lk_X11_214 in_X11_fails se_X11_fails (kd_of e16) ⟨rfl, by decide, by decide⟩ rfl rfl (Nat.le_of_ble_eq_true rfl) ⟨by decide, by decide⟩ ⟨Nat.zero_le _, Nat.zero_le _⟩ dX11_readTalk_16 ?_
    obtain ⟨hz, h⟩ := Sat_ifp h
    exact r_zreturn rfl hz (by rw [← Sat_eq h]; exact ⟨rfl, rfl⟩) dX11_readTalk_19
theorem dX11_readTrade_0 : decode cX11_readTrade 0 = .ok (.aload_n 0, 1) := by decide +kernel
theorem dX11_readTrade_1 : decode cX11_readTrade 1 = .ok (.invokevirtual 224, 3) := by decide +kernel
theorem dX11_readTrade_4 : decode cX11_readTrade 4 = .ok (.aload_n 0, 1) := by decide +kernel
theorem dX11_readTrade_5 : decode cX11_readTrade 5 = .ok (.getfield 186, 3) := by decide +kernel
theorem dX11_readTrade_8 : decode cX11_readTrade 8 = .ok (.iconst 1, 1) := by decide +kernel
theorem dX11_readTrade_9 : decode cX11_readTrade 9 = .ok (.if_icmp .eq 9, 3) := by decide +kernel
theorem dX11_readTrade_12 : decode cX11_readTrade 12 = .ok (.aload_n 0, 1) := by decide +kernel
theorem dX11_readTrade_13 : decode cX11_readTrade 13 = .ok (.iconst 1, 1) := by decide +kernel
theorem dX11_readTrade_14 : decode cX11_readTrade 14 = .ok (.invokevirtual 214, 3) := by decide +kernel
theorem dX11_readTrade_17 : decode cX11_readTrade 17 = .ok (.ireturn, 1) := by decide +kernel
theorem dX11_readTrade_18 : decode cX11_readTrade 18 = .ok (.aload_n 0, 1) := by decide +kernel
theorem dX11_readTrade_19 : decode cX11_readTrade 19 = .ok (.invokevirtual 257, 3) := by decide +kernel
theorem dX11_readTrade_22 : decode cX11_readTrade 22 = .ok (.istore_n 1, 1) := by decide +kernel
theorem dX11_readTrade_23 : decode cX11_readTrade 23 = .ok (.iload_n 1, 1) := by decide +kernel
theorem dX11_readTrade_24 : decode cX11_readTrade 24 = .ok (.iconst (-1), 1) := by decide +kernel
theorem dX11_readTrade_25 : decode cX11_readTrade 25 = .ok (.if_icmp .eq 24, 3) := by decide +kernel
theorem dX11_readTrade_28 : decode cX11_readTrade 28 = .ok (.aload_n 0, 1) := by decide +kernel
theorem dX11_readTrade_29 : decode cX11_readTrade 29 = .ok (.getfield 17, 3) := by decide +kernel
theorem dX11_readTrade_32 : decode cX11_readTrade 32 = .ok (.bipush 21, 2) := by decide +kernel
theorem dX11_readTrade_34 : decode cX11_readTrade 34 = .ok (.iaload, 1) := by decide +kernel
theorem dX11_readTrade_35 : decode cX11_readTrade 35 = .ok (.iload_n 1, 1) := by decide +kernel
theorem dX11_readTrade_36 : decode cX11_readTrade 36 = .ok (.ishr, 1) := by decide +kernel
theorem dX11_readTrade_37 : decode cX11_readTrade 37 = .ok (.iconst 1, 1) := by decide +kernel
theorem dX11_readTrade_38 : decode cX11_readTrade 38 = .ok (.iand, 1) := by decide +kernel
theorem dX11_readTrade_39 : decode cX11_readTrade 39 = .ok (.iconst 1, 1) := by decide +kernel
theorem dX11_readTrade_40 : decode cX11_readTrade 40 = .ok (.if_icmp .ne 9, 3) := by decide +kernel
theorem dX11_readTrade_43 : decode cX11_readTrade 43 = .ok (.aload_n 0, 1) := by decide +kernel
theorem dX11_readTrade_44 : decode cX11_readTrade 44 = .ok (.iconst 3, 1) := by decide +kernel
theorem dX11_readTrade_45 : decode cX11_readTrade 45 = .ok (.invokevirtual 214, 3) := by decide +kernel
theorem dX11_readTrade_48 : decode cX11_readTrade 48 = .ok (.ireturn, 1) := by decide +kernel
theorem dX11_readTrade_49 : decode cX11_readTrade 49 = .ok (.iload_n 1, 1) := by decide +kernel
theorem dX11_readTrade_50 : decode cX11_readTrade 50 = .ok (.iconst (-1), 1) := by decide +kernel
theorem dX11_readTrade_51 : decode cX11_readTrade 51 = .ok (.if_icmp .ne 9, 3) := by decide +kernel
theorem dX11_readTrade_54 : decode cX11_readTrade 54 = .ok (.aload_n 0, 1) := by decide +kernel
theorem dX11_readTrade_55 : decode cX11_readTrade 55 = .ok (.iconst 5, 1) := by decide +kernel
theorem dX11_readTrade_56 : decode cX11_readTrade 56 = .ok (.invokevirtual 214, 3) := by decide +kernel
theorem dX11_readTrade_59 : decode cX11_readTrade 59 = .ok (.ireturn, 1) := by decide +kernel
theorem dX11_readTrade_60 : decode cX11_readTrade 60 = .ok (.aload_n 0, 1) := by decide +kernel
theorem dX11_readTrade_61 : decode cX11_readTrade 61 = .ok (.getfield 17, 3) := by decide +kernel
theorem dX11_readTrade_64 : decode cX11_readTrade 64 = .ok (.bipush 21, 2) := by decide +kernel
theorem dX11_readTrade_66 : decode cX11_readTrade 66 = .ok (.dup2, 1) := by decide +kernel
theorem dX11_readTrade_67 : decode cX11_readTrade 67 = .ok (.iaload, 1) := by decide +kernel
theorem dX11_readTrade_68 : decode cX11_readTrade 68 = .ok (.iconst 1, 1) := by decide +kernel
theorem dX11_readTrade_69 : decode cX11_readTrade 69 = .ok (.iload_n 1, 1) := by decide +kernel
theorem dX11_readTrade_70 : decode cX11_readTrade 70 = .ok (.ishl, 1) := by decide +kernel
theorem dX11_readTrade_71 : decode cX11_readTrade 71 = .ok (.ior, 1) := by decide +kernel
theorem dX11_readTrade_72 : decode cX11_readTrade 72 = .ok (.iastore, 1) := by decide +kernel
theorem dX11_readTrade_73 : decode cX11_readTrade 73 = .ok (.aload_n 0, 1) := by decide +kernel
theorem dX11_readTrade_74 : decode cX11_readTrade 74 = .ok (.invokevirtual 224, 3) := by decide +kernel
theorem dX11_readTrade_77 : decode cX11_readTrade 77 = .ok (.aload_n 0, 1) := by decide +kernel
theorem dX11_readTrade_78 : decode cX11_readTrade 78 = .ok (.aload_n 0, 1) := by decide +kernel
theorem dX11_readTrade_79 : decode cX11_readTrade 79 = .ok (.getfield 70, 3) := by decide +kernel
theorem dX11_readTrade_82 : decode cX11_readTrade 82 = .ok (.bipush 8, 2) := by decide +kernel
theorem dX11_readTrade_84 : decode cX11_readTrade 84 = .ok (.iload_n 1, 1) := by decide +kernel
theorem dX11_readTrade_85 : decode cX11_readTrade 85 = .ok (.iadd, 1) := by decide +kernel
theorem dX11_readTrade_86 : decode cX11_readTrade 86 = .ok (.iconst 0, 1) := by decide +kernel
theorem dX11_readTrade_87 : decode cX11_readTrade 87 = .ok (.bipush 99, 2) := by decide +kernel
theorem dX11_readTrade_89 : decode cX11_readTrade 89 = .ok (.invokevirtual 274, 3) := by decide +kernel
theorem dX11_readTrade_92 : decode cX11_readTrade 92 = .ok (.ireturn, 1) := by decide +kernel
noncomputable def f_X11_readTrade_J49 (a0 : Nat) (l1 : Int32) (μ : Mm) : Option (Int32 × Mm) :=
  if l1 = (-1 : Int32) then (f_X11_fails a0 (5 : Int32) μ).bind fun x56 => if x56.1 = 0 ∨ x56.1 = 1 then some (x56.1, x56.2) else none else (gf_P 12 12 a0 μ).bind fun x61 => (ga_I x61 (21 : Int32) μ).bind fun x67 => (pa_I x61 (21 : Int32) (x67 ||| ((1 : Int32) <<< (l1 &&& 31))) μ).bind fun μ72 => (f_X11_scan a0 μ72).bind fun x74 => (gf_P 12 29 a0 x74).bind fun x79 => (f_X11_readInto a0 x79 ((8 : Int32) + l1) (0 : Int32) (99 : Int32) x74).bind fun x89 => if x89.1 = 0 ∨ x89.1 = 1 then some (x89.1, x89.2) else none
noncomputable def f_X11_readTrade (a0 : Nat) (μ : Mm) : Option (Int32 × Mm) :=
  if (mm_K μ a0).1 = 12 then (f_X11_scan a0 μ).bind fun x1 => (gf_I 12 3 a0 x1).bind fun x5 => if x5 = (1 : Int32) then (f_X11_named a0 x1).bind fun x19 => if x19 = (-1 : Int32) then f_X11_readTrade_J49 a0 x19 x1 else (gf_P 12 12 a0 x1).bind fun x29 => (ga_I x29 (21 : Int32) x1).bind fun x34 => if ((x34 >>> (x19 &&& 31)) &&& (1 : Int32)) = (1 : Int32) then (f_X11_fails a0 (3 : Int32) x1).bind fun x45 => if x45.1 = 0 ∨ x45.1 = 1 then some (x45.1, x45.2) else none else f_X11_readTrade_J49 a0 x19 x1 else (f_X11_fails a0 (1 : Int32) x1).bind fun x14 => if x14.1 = 0 ∨ x14.1 = 1 then some (x14.1, x14.2) else none else none
abbrev Rn_X11_readTrade (G : Gv) (Q : Option Value → Mm → Prop) (pc : Nat) (lv : List (Nat × Value)) (st : List Value) (μ : Mm) : Prop := Rn G RX11 cX11_readTrade 2 (some .boolean) "readTrade" (rmd 8 0 0) (Zm G 0 0 Q) 0 0 pc lv st μ
set_option maxRecDepth 100000 in
set_option maxHeartbeats 4000000 in
theorem m_X11_readTrade {G : Gv} (a0 : Nat) (μ : Mm) {r : (Int32 × Mm)} (hx : f_X11_readTrade a0 μ = some r) : Mt G yX11_readTrade cX11_readTrade 2 (some .boolean) 8 0 0 [.ref a0] μ (fun v μ' => v = some (.int r.1) ∧ μ' = r.2) := by
  refine Mt.of (by decide) (Nat.le_of_ble_eq_true rfl) ?_
  show Rn_X11_readTrade G (fun v μ' => v = some (.int r.1) ∧ μ' = r.2) 0 [(0, .ref a0)] [] μ
  obtain ⟨_, h⟩ := Sat_ifp (show Sat (f_X11_readTrade a0 μ) (fun x => x = r) from ⟨_, hx, rfl⟩)
  have J49 : ∀ (a0_49 : Nat) (l1_49 : Int32) (μ_49 : Mm), Sat (f_X11_readTrade_J49 a0_49 l1_49 μ_49) (fun x => x = r) → Rn_X11_readTrade G (fun v μ' => v = some (.int r.1) ∧ μ' = r.2) 49 [(0, .ref a0_49), (1, .int l1_49)] [] μ_49 := by
    intro a0_49 l1_49 μ_49 h
    refine r_iload_n dX11_readTrade_49 1 rfl ?_
    refine r_iconst (v := -1) dX11_readTrade_50 (by decide) ?_
    refine r_icmp_ne 60 dX11_readTrade_51 (by decide) (fun c51 => ?_) (fun c51 => ?_)
    · have h := Sat_neg c51 h
      refine r_aload_n dX11_readTrade_60 0 rfl ?_
      obtain ⟨x61, e61, h⟩ := Sat_bind h
      refine r_getP fk_X11_17 rfl e61 dX11_readTrade_61 ?_
      refine r_bipush (v := 21) dX11_readTrade_64 (by decide) ?_
      refine r_dup2_11 dX11_readTrade_66 rfl rfl ?_
      obtain ⟨x67, e67, h⟩ := Sat_bind h
      refine r_iaload e67 dX11_readTrade_67 ?_
      refine r_iconst (v := 1) dX11_readTrade_68 (by decide) ?_
      refine r_iload_n dX11_readTrade_69 1 rfl ?_
      refine r_ishl dX11_readTrade_70 ?_
      refine r_ior dX11_readTrade_71 ?_
      obtain ⟨μ72, e72, h⟩ := Sat_bind h
      refine r_iastore e72 dX11_readTrade_72 ?_
      refine r_aload_n dX11_readTrade_73 0 rfl ?_
      obtain ⟨x74, e74, h⟩ := Sat_bind h
      refine r_cV (t := 12) [] [] (m_X11_scan a0_49 μ72 e74) ck_X11_scan lk_X11_224 in_X11_scan se_X11_scan (kd_of e74) ⟨rfl, by decide, by decide⟩ rfl rfl (Nat.le_of_ble_eq_true rfl) ⟨by decide, by decide⟩ ⟨Nat.zero_le _, Nat.zero_le _⟩ dX11_readTrade_74 ?_
      refine r_aload_n dX11_readTrade_77 0 rfl ?_
      refine r_aload_n dX11_readTrade_78 0 rfl ?_
      obtain ⟨x79, e79, h⟩ := Sat_bind h
      refine r_getP fk_X11_70 rfl e79 dX11_readTrade_79 ?_
      refine r_bipush (v := 8) dX11_readTrade_82 (by decide) ?_
      refine r_iload_n dX11_readTrade_84 1 rfl ?_
      refine r_iadd dX11_readTrade_85 ?_
      refine r_iconst (v := 0) dX11_readTrade_86 (by decide) ?_
      refine r_bipush (v := 99) dX11_readTrade_87 (by decide) ?_
      obtain ⟨x89, e89, h⟩ := Sat_bind h
      refine r_cV (t := 12) [.ref x79, .int ((8 : Int32) + l1_49), .int (0 : Int32), .int (99 : Int32)] [] (m_X11_readInto a0_49 x79 ((8 : Int32) + l1_49) (0 : Int32) (99 : Int32) x74 e89) ck_X11_readInto lk_X11_274 in_X11_readInto se_X11_readInto (kd_of e89) ⟨rfl, by decide, by decide⟩ rfl rfl (Nat.le_of_ble_eq_true rfl) ⟨by decide, by decide⟩ ⟨Nat.zero_le _, Nat.zero_le _⟩ dX11_readTrade_89 ?_
      obtain ⟨hz, h⟩ := Sat_ifp h
      exact r_zreturn rfl hz (by rw [← Sat_eq h]; exact ⟨rfl, rfl⟩) dX11_readTrade_92
    · have h := Sat_pos c51 h
      refine r_aload_n dX11_readTrade_54 0 rfl ?_
      refine r_iconst (v := 5) dX11_readTrade_55 (by decide) ?_
      obtain ⟨x56, e56, h⟩ := Sat_bind h
      refine r_cV (t := 12) [.int (5 : Int32)] [] (m_X11_fails a0_49 (5 : Int32) μ_49 e56) ck_X11_fails lk_X11_214 in_X11_fails se_X11_fails (kd_of e56) ⟨rfl, by decide, by decide⟩ rfl rfl (Nat.le_of_ble_eq_true rfl) ⟨by decide, by decide⟩ ⟨Nat.zero_le _, Nat.zero_le _⟩ dX11_readTrade_56 ?_
      obtain ⟨hz, h⟩ := Sat_ifp h
      exact r_zreturn rfl hz (by rw [← Sat_eq h]; exact ⟨rfl, rfl⟩) dX11_readTrade_59
  refine r_aload_n dX11_readTrade_0 0 rfl ?_
  obtain ⟨x1, e1, h⟩ := Sat_bind h
  refine r_cV (t := 12) [] [] (m_X11_scan a0 μ e1) ck_X11_scan lk_X11_224 in_X11_scan se_X11_scan (kd_of e1) ⟨rfl, by decide, by decide⟩ rfl rfl (Nat.le_of_ble_eq_true rfl) ⟨by decide, by decide⟩ ⟨Nat.zero_le _, Nat.zero_le _⟩ dX11_readTrade_1 ?_
  refine r_aload_n dX11_readTrade_4 0 rfl ?_
  obtain ⟨x5, e5, h⟩ := Sat_bind h
  refine r_getI fk_X11_186 rfl e5 dX11_readTrade_5 ?_
  refine r_iconst (v := 1) dX11_readTrade_8 (by decide) ?_
  refine r_icmp_eq 18 dX11_readTrade_9 (by decide) (fun c9 => ?_) (fun c9 => ?_)
  · have h := Sat_pos c9 h
    refine r_aload_n dX11_readTrade_18 0 rfl ?_
    obtain ⟨x19, e19, h⟩ := Sat_bind h
    refine r_cV (t := 12) [] [] (m_X11_named a0 x1 e19) ck_X11_named lk_X11_257 in_X11_named se_X11_named (kd_of e19) ⟨rfl, by decide, by decide⟩ rfl rfl (Nat.le_of_ble_eq_true rfl) ⟨by decide, by decide⟩ ⟨Nat.zero_le _, Nat.zero_le _⟩ dX11_readTrade_19 ?_
    refine r_istore_n (lv' := [(1, .int x19), (0, .ref a0)]) dX11_readTrade_22 rfl (by decide) rfl ?_
    refine r_iload_n dX11_readTrade_23 0 rfl ?_
    refine r_iconst (v := -1) dX11_readTrade_24 (by decide) ?_
    refine r_icmp_eq 49 dX11_readTrade_25 (by decide) (fun c25 => ?_) (fun c25 => ?_)
    · have h := Sat_pos c25 h
      exact r_sub [1, 0] rfl (J49 a0 x19 x1 h)
    · have h := Sat_neg c25 h
      refine r_aload_n dX11_readTrade_28 1 rfl ?_
      obtain ⟨x29, e29, h⟩ := Sat_bind h
      refine r_getP fk_X11_17 rfl e29 dX11_readTrade_29 ?_
      refine r_bipush (v := 21) dX11_readTrade_32 (by decide) ?_
      obtain ⟨x34, e34, h⟩ := Sat_bind h
      refine r_iaload e34 dX11_readTrade_34 ?_
      refine r_iload_n dX11_readTrade_35 0 rfl ?_
      refine r_ishr dX11_readTrade_36 ?_
      refine r_iconst (v := 1) dX11_readTrade_37 (by decide) ?_
      refine r_iand dX11_readTrade_38 ?_
      refine r_iconst (v := 1) dX11_readTrade_39 (by decide) ?_
      refine r_icmp_ne 49 dX11_readTrade_40 (by decide) (fun c40 => ?_) (fun c40 => ?_)
      · have h := Sat_neg c40 h
        exact r_sub [1, 0] rfl (J49 a0 x19 x1 h)
      · have h := Sat_pos c40 h
        refine r_aload_n dX11_readTrade_43 1 rfl ?_
        refine r_iconst (v := 3) dX11_readTrade_44 (by decide) ?_
        obtain ⟨x45, e45, h⟩ := Sat_bind h
        refine r_cV (t := 12) [.int (3 : Int32)] [] (m_X11_fails a0 (3 : Int32) x1 e45) ck_X11_fails lk_X11_214 in_X11_fails se_X11_fails (kd_of e45) ⟨rfl, by decide, by decide⟩ rfl rfl (Nat.le_of_ble_eq_true rfl) ⟨by decide, by decide⟩ ⟨Nat.zero_le _, Nat.zero_le _⟩ dX11_readTrade_45 ?_
        obtain ⟨hz, h⟩ := Sat_ifp h
        exact r_zreturn rfl hz (by rw [← Sat_eq h]; exact ⟨rfl, rfl⟩) dX11_readTrade_48
  · have h := Sat_neg c9 h
    refine r_aload_n dX11_readTrade_12 0 rfl ?_
    refine r_iconst (v := 1) dX11_readTrade_13 (by decide) ?_
    obtain ⟨x14, e14, h⟩ := Sat_bind h
    refine r_cV (t := 12) [.int (1 : Int32)] [] (m_X11_fails a0 (1 : Int32) x1 e14) ck_X11_fails lk_X11_214 in_X11_fails se_X11_fails (kd_of e14) ⟨rfl, by decide, by decide⟩ rfl rfl (Nat.le_of_ble_eq_true rfl) ⟨by decide, by decide⟩ ⟨Nat.zero_le _, Nat.zero_le _⟩ dX11_readTrade_14 ?_
    obtain ⟨hz, h⟩ := Sat_ifp h
    exact r_zreturn rfl hz (by rw [← Sat_eq h]; exact ⟨rfl, rfl⟩) dX11_readTrade_17
theorem dX11_readWish_0 : decode cX11_readWish 0 = .ok (.aload_n 0, 1) := by decide +kernel
theorem dX11_readWish_1 : decode cX11_readWish 1 = .ok (.getfield 17, 3) := by decide +kernel
theorem dX11_readWish_4 : decode cX11_readWish 4 = .ok (.bipush 20, 2) := by decide +kernel
theorem dX11_readWish_6 : decode cX11_readWish 6 = .ok (.iaload, 1) := by decide +kernel
theorem dX11_readWish_7 : decode cX11_readWish 7 = .ok (.istore_n 2, 1) := by decide +kernel
theorem dX11_readWish_8 : decode cX11_readWish 8 = .ok (.iload_n 2, 1) := by decide +kernel
theorem dX11_readWish_9 : decode cX11_readWish 9 = .ok (.bipush 8, 2) := by decide +kernel
theorem dX11_readWish_11 : decode cX11_readWish 11 = .ok (.if_icmp .ne 9, 3) := by decide +kernel
theorem dX11_readWish_14 : decode cX11_readWish 14 = .ok (.aload_n 0, 1) := by decide +kernel
theorem dX11_readWish_15 : decode cX11_readWish 15 = .ok (.iconst 4, 1) := by decide +kernel
theorem dX11_readWish_16 : decode cX11_readWish 16 = .ok (.invokevirtual 214, 3) := by decide +kernel
theorem dX11_readWish_19 : decode cX11_readWish 19 = .ok (.ireturn, 1) := by decide +kernel
theorem dX11_readWish_20 : decode cX11_readWish 20 = .ok (.aload_n 0, 1) := by decide +kernel
theorem dX11_readWish_21 : decode cX11_readWish 21 = .ok (.invokevirtual 224, 3) := by decide +kernel
theorem dX11_readWish_24 : decode cX11_readWish 24 = .ok (.aload_n 0, 1) := by decide +kernel
theorem dX11_readWish_25 : decode cX11_readWish 25 = .ok (.aload_n 0, 1) := by decide +kernel
theorem dX11_readWish_26 : decode cX11_readWish 26 = .ok (.getfield 58, 3) := by decide +kernel
theorem dX11_readWish_29 : decode cX11_readWish 29 = .ok (.bipush 8, 2) := by decide +kernel
theorem dX11_readWish_31 : decode cX11_readWish 31 = .ok (.iload_n 2, 1) := by decide +kernel
theorem dX11_readWish_32 : decode cX11_readWish 32 = .ok (.iadd, 1) := by decide +kernel
theorem dX11_readWish_33 : decode cX11_readWish 33 = .ok (.invokevirtual 270, 3) := by decide +kernel
theorem dX11_readWish_36 : decode cX11_readWish 36 = .ok (.ifCond .eq 39, 3) := by decide +kernel
theorem dX11_readWish_39 : decode cX11_readWish 39 = .ok (.aload_n 0, 1) := by decide +kernel
theorem dX11_readWish_40 : decode cX11_readWish 40 = .ok (.aload_n 0, 1) := by decide +kernel
theorem dX11_readWish_41 : decode cX11_readWish 41 = .ok (.getfield 61, 3) := by decide +kernel
theorem dX11_readWish_44 : decode cX11_readWish 44 = .ok (.bipush 8, 2) := by decide +kernel
theorem dX11_readWish_46 : decode cX11_readWish 46 = .ok (.iload_n 2, 1) := by decide +kernel
theorem dX11_readWish_47 : decode cX11_readWish 47 = .ok (.iadd, 1) := by decide +kernel
theorem dX11_readWish_48 : decode cX11_readWish 48 = .ok (.iconst 0, 1) := by decide +kernel
theorem dX11_readWish_49 : decode cX11_readWish 49 = .ok (.bipush 11, 2) := by decide +kernel
theorem dX11_readWish_51 : decode cX11_readWish 51 = .ok (.invokevirtual 274, 3) := by decide +kernel
theorem dX11_readWish_54 : decode cX11_readWish 54 = .ok (.ifCond .eq 21, 3) := by decide +kernel
theorem dX11_readWish_57 : decode cX11_readWish 57 = .ok (.aload_n 0, 1) := by decide +kernel
theorem dX11_readWish_58 : decode cX11_readWish 58 = .ok (.aload_n 0, 1) := by decide +kernel
theorem dX11_readWish_59 : decode cX11_readWish 59 = .ok (.getfield 64, 3) := by decide +kernel
theorem dX11_readWish_62 : decode cX11_readWish 62 = .ok (.bipush 8, 2) := by decide +kernel
theorem dX11_readWish_64 : decode cX11_readWish 64 = .ok (.iload_n 2, 1) := by decide +kernel
theorem dX11_readWish_65 : decode cX11_readWish 65 = .ok (.iadd, 1) := by decide +kernel
theorem dX11_readWish_66 : decode cX11_readWish 66 = .ok (.iconst 0, 1) := by decide +kernel
theorem dX11_readWish_67 : decode cX11_readWish 67 = .ok (.bipush 27, 2) := by decide +kernel
theorem dX11_readWish_69 : decode cX11_readWish 69 = .ok (.invokevirtual 274, 3) := by decide +kernel
theorem dX11_readWish_72 : decode cX11_readWish 72 = .ok (.ifCond .ne 5, 3) := by decide +kernel
theorem dX11_readWish_75 : decode cX11_readWish 75 = .ok (.iconst 0, 1) := by decide +kernel
theorem dX11_readWish_76 : decode cX11_readWish 76 = .ok (.ireturn, 1) := by decide +kernel
theorem dX11_readWish_77 : decode cX11_readWish 77 = .ok (.aload_n 0, 1) := by decide +kernel
theorem dX11_readWish_78 : decode cX11_readWish 78 = .ok (.getfield 67, 3) := by decide +kernel
theorem dX11_readWish_81 : decode cX11_readWish 81 = .ok (.bipush 8, 2) := by decide +kernel
theorem dX11_readWish_83 : decode cX11_readWish 83 = .ok (.iload_n 2, 1) := by decide +kernel
theorem dX11_readWish_84 : decode cX11_readWish 84 = .ok (.iadd, 1) := by decide +kernel
theorem dX11_readWish_85 : decode cX11_readWish 85 = .ok (.iload_n 1, 1) := by decide +kernel
theorem dX11_readWish_86 : decode cX11_readWish 86 = .ok (.bipush 10, 2) := by decide +kernel
theorem dX11_readWish_88 : decode cX11_readWish 88 = .ok (.if_icmp .ne 7, 3) := by decide +kernel
theorem dX11_readWish_91 : decode cX11_readWish 91 = .ok (.iconst 1, 1) := by decide +kernel
theorem dX11_readWish_92 : decode cX11_readWish 92 = .ok (.goto 4, 3) := by decide +kernel
theorem dX11_readWish_95 : decode cX11_readWish 95 = .ok (.iconst 0, 1) := by decide +kernel
theorem dX11_readWish_96 : decode cX11_readWish 96 = .ok (.iastore, 1) := by decide +kernel
theorem dX11_readWish_97 : decode cX11_readWish 97 = .ok (.aload_n 0, 1) := by decide +kernel
theorem dX11_readWish_98 : decode cX11_readWish 98 = .ok (.getfield 17, 3) := by decide +kernel
theorem dX11_readWish_101 : decode cX11_readWish 101 = .ok (.bipush 20, 2) := by decide +kernel
theorem dX11_readWish_103 : decode cX11_readWish 103 = .ok (.dup2, 1) := by decide +kernel
theorem dX11_readWish_104 : decode cX11_readWish 104 = .ok (.iaload, 1) := by decide +kernel
theorem dX11_readWish_105 : decode cX11_readWish 105 = .ok (.iconst 1, 1) := by decide +kernel
theorem dX11_readWish_106 : decode cX11_readWish 106 = .ok (.iadd, 1) := by decide +kernel
theorem dX11_readWish_107 : decode cX11_readWish 107 = .ok (.iastore, 1) := by decide +kernel
theorem dX11_readWish_108 : decode cX11_readWish 108 = .ok (.iconst 1, 1) := by decide +kernel
theorem dX11_readWish_109 : decode cX11_readWish 109 = .ok (.ireturn, 1) := by decide +kernel
noncomputable def f_X11_readWish_J96 (a0 : Nat) (k0 : Nat) (k1 : Int32) (k2 : Int32) (μ : Mm) : Option (Int32 × Mm) :=
  (pa_I k0 k1 k2 μ).bind fun μ96 => (gf_P 12 12 a0 μ96).bind fun x98 => (ga_I x98 (20 : Int32) μ96).bind fun x104 => (pa_I x98 (20 : Int32) (x104 + (1 : Int32)) μ96).bind fun μ107 => some ((1 : Int32), μ107)
noncomputable def f_X11_readWish (a0 : Nat) (l1 : Int32) (μ : Mm) : Option (Int32 × Mm) :=
  if (mm_K μ a0).1 = 12 then (gf_P 12 12 a0 μ).bind fun x1 => (ga_I x1 (20 : Int32) μ).bind fun x6 => if x6 = (8 : Int32) then (f_X11_fails a0 (4 : Int32) μ).bind fun x16 => if x16.1 = 0 ∨ x16.1 = 1 then some (x16.1, x16.2) else none else (f_X11_scan a0 μ).bind fun x21 => (gf_P 12 25 a0 x21).bind fun x26 => (f_X11_readWho a0 x26 ((8 : Int32) + x6) x21).bind fun x33 => if x33.1 = 0 then some ((0 : Int32), x33.2) else (gf_P 12 26 a0 x33.2).bind fun x41 => (f_X11_readInto a0 x41 ((8 : Int32) + x6) (0 : Int32) (11 : Int32) x33.2).bind fun x51 => if x51.1 = 0 then some ((0 : Int32), x51.2) else (gf_P 12 27 a0 x51.2).bind fun x59 => (f_X11_readInto a0 x59 ((8 : Int32) + x6) (0 : Int32) (27 : Int32) x51.2).bind fun x69 => if x69.1 = 0 then some ((0 : Int32), x69.2) else (gf_P 12 28 a0 x69.2).bind fun x78 => if l1 = (10 : Int32) then f_X11_readWish_J96 a0 x78 ((8 : Int32) + x6) (1 : Int32) x69.2 else f_X11_readWish_J96 a0 x78 ((8 : Int32) + x6) (0 : Int32) x69.2 else none
abbrev Rn_X11_readWish (G : Gv) (Q : Option Value → Mm → Prop) (pc : Nat) (lv : List (Nat × Value)) (st : List Value) (μ : Mm) : Prop := Rn G RX11 cX11_readWish 3 (some .boolean) "readWish" (rmd 8 0 0) (Zm G 0 0 Q) 0 0 pc lv st μ
set_option maxRecDepth 100000 in
set_option maxHeartbeats 4000000 in
theorem m_X11_readWish {G : Gv} (a0 : Nat) (l1 : Int32) (μ : Mm) {r : (Int32 × Mm)} (hx : f_X11_readWish a0 l1 μ = some r) : Mt G yX11_readWish cX11_readWish 3 (some .boolean) 8 0 0 [.ref a0, .int l1] μ (fun v μ' => v = some (.int r.1) ∧ μ' = r.2) := by
  refine Mt.of (by decide) (Nat.le_of_ble_eq_true rfl) ?_
  show Rn_X11_readWish G (fun v μ' => v = some (.int r.1) ∧ μ' = r.2) 0 [(0, .ref a0), (1, .int l1)] [] μ
  obtain ⟨_, h⟩ := Sat_ifp (show Sat (f_X11_readWish a0 l1 μ) (fun x => x = r) from ⟨_, hx, rfl⟩)
  have J96 : ∀ (a0_96 : Nat) (k0_96 : Nat) (k1_96 : Int32) (k2_96 : Int32) (μ_96 : Mm), Sat (f_X11_readWish_J96 a0_96 k0_96 k1_96 k2_96 μ_96) (fun x => x = r) → Rn_X11_readWish G (fun v μ' => v = some (.int r.1) ∧ μ' = r.2) 96 [(0, .ref a0_96)] [.int k2_96, .int k1_96, .ref k0_96] μ_96 := by
    intro a0_96 k0_96 k1_96 k2_96 μ_96 h
    obtain ⟨μ96, e96, h⟩ := Sat_bind h
    refine r_iastore e96 dX11_readWish_96 ?_
    refine r_aload_n dX11_readWish_97 0 rfl ?_
    obtain ⟨x98, e98, h⟩ := Sat_bind h
    refine r_getP fk_X11_17 rfl e98 dX11_readWish_98 ?_
    refine r_bipush (v := 20) dX11_readWish_101 (by decide) ?_
    refine r_dup2_11 dX11_readWish_103 rfl rfl ?_
    obtain ⟨x104, e104, h⟩ := Sat_bind h
    refine r_iaload e104 dX11_readWish_104 ?_
    refine r_iconst (v := 1) dX11_readWish_105 (by decide) ?_
    refine r_iadd dX11_readWish_106 ?_
    obtain ⟨μ107, e107, h⟩ := Sat_bind h
    refine r_iastore e107 dX11_readWish_107 ?_
    refine r_iconst (v := 1) dX11_readWish_108 (by decide) ?_
    exact r_zreturn rfl (by decide) (by rw [← Sat_eq h]; exact ⟨rfl, rfl⟩) dX11_readWish_109
  refine r_aload_n dX11_readWish_0 0 rfl ?_
  obtain ⟨x1, e1, h⟩ := Sat_bind h
  refine r_getP fk_X11_17 rfl e1 dX11_readWish_1 ?_
  refine r_bipush (v := 20) dX11_readWish_4 (by decide) ?_
  obtain ⟨x6, e6, h⟩ := Sat_bind h
  refine r_iaload e6 dX11_readWish_6 ?_
  refine r_istore_n (lv' := [(2, .int x6), (0, .ref a0), (1, .int l1)]) dX11_readWish_7 rfl (by decide) rfl ?_
  refine r_iload_n dX11_readWish_8 0 rfl ?_
  refine r_bipush (v := 8) dX11_readWish_9 (by decide) ?_
  refine r_icmp_ne 20 dX11_readWish_11 (by decide) (fun c11 => ?_) (fun c11 => ?_)
  · have h := Sat_neg c11 h
    refine r_aload_n dX11_readWish_20 1 rfl ?_
    obtain ⟨x21, e21, h⟩ := Sat_bind h
    refine r_cV (t := 12) [] [] (m_X11_scan a0 μ e21) ck_X11_scan lk_X11_224 in_X11_scan se_X11_scan (kd_of e21) ⟨rfl, by decide, by decide⟩ rfl rfl (Nat.le_of_ble_eq_true rfl) ⟨by decide, by decide⟩ ⟨Nat.zero_le _, Nat.zero_le _⟩ dX11_readWish_21 ?_
    refine r_aload_n dX11_readWish_24 1 rfl ?_
    refine r_aload_n dX11_readWish_25 1 rfl ?_
    obtain ⟨x26, e26, h⟩ := Sat_bind h
    refine r_getP fk_X11_58 rfl e26 dX11_readWish_26 ?_
    refine r_bipush (v := 8) dX11_readWish_29 (by decide) ?_
    refine r_iload_n dX11_readWish_31 0 rfl ?_
    refine r_iadd dX11_readWish_32 ?_
    obtain ⟨x33, e33, h⟩ := Sat_bind h
    refine r_cV (t := 12) [.ref x26, .int ((8 : Int32) + x6)] [] (m_X11_readWho a0 x26 ((8 : Int32) + x6) x21 e33) ck_X11_readWho lk_X11_270 in_X11_readWho se_X11_readWho (kd_of e33) ⟨rfl, by decide, by decide⟩ rfl rfl (Nat.le_of_ble_eq_true rfl) ⟨by decide, by decide⟩ ⟨Nat.zero_le _, Nat.zero_le _⟩ dX11_readWish_33 ?_
    refine r_if_eq 75 dX11_readWish_36 (by decide) (fun c36 => ?_) (fun c36 => ?_)
    · have h := Sat_pos c36 h
      refine r_iconst (v := 0) dX11_readWish_75 (by decide) ?_
      exact r_zreturn rfl (by decide) (by rw [← Sat_eq h]; exact ⟨rfl, rfl⟩) dX11_readWish_76
    · have h := Sat_neg c36 h
      refine r_aload_n dX11_readWish_39 1 rfl ?_
      refine r_aload_n dX11_readWish_40 1 rfl ?_
      obtain ⟨x41, e41, h⟩ := Sat_bind h
      refine r_getP fk_X11_61 rfl e41 dX11_readWish_41 ?_
      refine r_bipush (v := 8) dX11_readWish_44 (by decide) ?_
      refine r_iload_n dX11_readWish_46 0 rfl ?_
      refine r_iadd dX11_readWish_47 ?_
      refine r_iconst (v := 0) dX11_readWish_48 (by decide) ?_
      refine r_bipush (v := 11) dX11_readWish_49 (by decide) ?_
      obtain ⟨x51, e51, h⟩ := Sat_bind h
      refine r_cV (t := 12) [.ref x41, .int ((8 : Int32) + x6), .int (0 : Int32), .int (11 : Int32)] [] (m_X11_readInto a0 x41 ((8 : Int32) + x6) (0 : Int32) (11 : Int32) x33.2 e51) ck_X11_readInto lk_X11_274 in_X11_readInto se_X11_readInto (kd_of e51) ⟨rfl, by decide, by decide⟩ rfl rfl (Nat.le_of_ble_eq_true rfl) ⟨by decide, by decide⟩ ⟨Nat.zero_le _, Nat.zero_le _⟩ dX11_readWish_51 ?_
      refine r_if_eq 75 dX11_readWish_54 (by decide) (fun c54 => ?_) (fun c54 => ?_)
      · have h := Sat_pos c54 h
        refine r_iconst (v := 0) dX11_readWish_75 (by decide) ?_
        exact r_zreturn rfl (by decide) (by rw [← Sat_eq h]; exact ⟨rfl, rfl⟩) dX11_readWish_76
      · have h := Sat_neg c54 h
        refine r_aload_n dX11_readWish_57 1 rfl ?_
        refine r_aload_n dX11_readWish_58 1 rfl ?_
        obtain ⟨x59, e59, h⟩ := Sat_bind h
        refine r_getP fk_X11_64 rfl e59 dX11_readWish_59 ?_
        refine r_bipush (v := 8) dX11_readWish_62 (by decide) ?_
        refine r_iload_n dX11_readWish_64 0 rfl ?_
        refine r_iadd dX11_readWish_65 ?_
        refine r_iconst (v := 0) dX11_readWish_66 (by decide) ?_
        refine r_bipush (v := 27) dX11_readWish_67 (by decide) ?_
        obtain ⟨x69, e69, h⟩ := Sat_bind h
        refine r_cV (t := 12) [.ref x59, .int ((8 : Int32) + x6), .int (0 : Int32), .int (27 : Int32)] [] (m_X11_readInto a0 x59 ((8 : Int32) + x6) (0 : Int32) (27 : Int32) x51.2 e69) ck_X11_readInto lk_X11_274 in_X11_readInto se_X11_readInto (kd_of e69) ⟨rfl, by decide, by decide⟩ rfl rfl (Nat.le_of_ble_eq_true rfl) ⟨by decide, by decide⟩ ⟨Nat.zero_le _, Nat.zero_le _⟩ dX11_readWish_69 ?_
        refine r_if_ne 77 dX11_readWish_72 (by decide) (fun c72 => ?_) (fun c72 => ?_)
        · have h := Sat_neg c72 h
          refine r_aload_n dX11_readWish_77 1 rfl ?_
          obtain ⟨x78, e78, h⟩ := Sat_bind h
          refine r_getP fk_X11_67 rfl e78 dX11_readWish_78 ?_
          refine r_bipush (v := 8) dX11_readWish_81 (by decide) ?_
          refine r_iload_n dX11_readWish_83 0 rfl ?_
          refine r_iadd dX11_readWish_84 ?_
          refine r_iload_n dX11_readWish_85 2 rfl ?_
          refine r_bipush (v := 10) dX11_readWish_86 (by decide) ?_
          refine r_icmp_ne 95 dX11_readWish_88 (by decide) (fun c88 => ?_) (fun c88 => ?_)
          · have h := Sat_neg c88 h
            refine r_iconst (v := 0) dX11_readWish_95 (by decide) ?_
            exact r_sub [1] rfl (J96 a0 x78 ((8 : Int32) + x6) (0 : Int32) x69.2 h)
          · have h := Sat_pos c88 h
            refine r_iconst (v := 1) dX11_readWish_91 (by decide) ?_
            refine r_goto 96 dX11_readWish_92 (by decide) ?_
            exact r_sub [1] rfl (J96 a0 x78 ((8 : Int32) + x6) (1 : Int32) x69.2 h)
        · have h := Sat_pos c72 h
          refine r_iconst (v := 0) dX11_readWish_75 (by decide) ?_
          exact r_zreturn rfl (by decide) (by rw [← Sat_eq h]; exact ⟨rfl, rfl⟩) dX11_readWish_76
  · have h := Sat_pos c11 h
    refine r_aload_n dX11_readWish_14 1 rfl ?_
    refine r_iconst (v := 4) dX11_readWish_15 (by decide) ?_
    obtain ⟨x16, e16, h⟩ := Sat_bind h
    refine r_cV (t := 12) [.int (4 : Int32)] [] (m_X11_fails a0 (4 : Int32) μ e16) ck_X11_fails lk_X11_214 in_X11_fails se_X11_fails (kd_of e16) ⟨rfl, by decide, by decide⟩ rfl rfl (Nat.le_of_ble_eq_true rfl) ⟨by decide, by decide⟩ ⟨Nat.zero_le _, Nat.zero_le _⟩ dX11_readWish_16 ?_
    obtain ⟨hz, h⟩ := Sat_ifp h
    exact r_zreturn rfl hz (by rw [← Sat_eq h]; exact ⟨rfl, rfl⟩) dX11_readWish_19
theorem dX11_readClause_0 : decode cX11_readClause 0 = .ok (.aload_n 0, 1) := by decide +kernel
theorem dX11_readClause_1 : decode cX11_readClause 1 = .ok (.getfield 186, 3) := by decide +kernel
theorem dX11_readClause_4 : decode cX11_readClause 4 = .ok (.iconst 1, 1) := by decide +kernel
theorem dX11_readClause_5 : decode cX11_readClause 5 = .ok (.if_icmp .ne 10, 3) := by decide +kernel
theorem dX11_readClause_8 : decode cX11_readClause 8 = .ok (.aload_n 0, 1) := by decide +kernel
theorem dX11_readClause_9 : decode cX11_readClause 9 = .ok (.getfield 183, 3) := by decide +kernel
theorem dX11_readClause_12 : decode cX11_readClause 12 = .ok (.goto 4, 3) := by decide +kernel
theorem dX11_readClause_15 : decode cX11_readClause 15 = .ok (.iconst (-1), 1) := by decide +kernel
theorem dX11_readClause_16 : decode cX11_readClause 16 = .ok (.istore_n 1, 1) := by decide +kernel
theorem dX11_readClause_17 : decode cX11_readClause 17 = .ok (.iload_n 1, 1) := by decide +kernel
theorem dX11_readClause_18 : decode cX11_readClause 18 = .ok (.tableswitch 94 0 11 #[62, 67, 77, 72, 77, 77, 94, 94, 94, 83, 83, 89], 62) := by decide +kernel
theorem dX11_readClause_80 : decode cX11_readClause 80 = .ok (.aload_n 0, 1) := by decide +kernel
theorem dX11_readClause_81 : decode cX11_readClause 81 = .ok (.invokevirtual 278, 3) := by decide +kernel
theorem dX11_readClause_84 : decode cX11_readClause 84 = .ok (.ireturn, 1) := by decide +kernel
theorem dX11_readClause_85 : decode cX11_readClause 85 = .ok (.aload_n 0, 1) := by decide +kernel
theorem dX11_readClause_86 : decode cX11_readClause 86 = .ok (.invokevirtual 282, 3) := by decide +kernel
theorem dX11_readClause_89 : decode cX11_readClause 89 = .ok (.ireturn, 1) := by decide +kernel
theorem dX11_readClause_90 : decode cX11_readClause 90 = .ok (.aload_n 0, 1) := by decide +kernel
theorem dX11_readClause_91 : decode cX11_readClause 91 = .ok (.invokevirtual 285, 3) := by decide +kernel
theorem dX11_readClause_94 : decode cX11_readClause 94 = .ok (.ireturn, 1) := by decide +kernel
theorem dX11_readClause_95 : decode cX11_readClause 95 = .ok (.aload_n 0, 1) := by decide +kernel
theorem dX11_readClause_96 : decode cX11_readClause 96 = .ok (.iload_n 1, 1) := by decide +kernel
theorem dX11_readClause_97 : decode cX11_readClause 97 = .ok (.invokevirtual 288, 3) := by decide +kernel
theorem dX11_readClause_100 : decode cX11_readClause 100 = .ok (.ireturn, 1) := by decide +kernel
theorem dX11_readClause_101 : decode cX11_readClause 101 = .ok (.aload_n 0, 1) := by decide +kernel
theorem dX11_readClause_102 : decode cX11_readClause 102 = .ok (.iload_n 1, 1) := by decide +kernel
theorem dX11_readClause_103 : decode cX11_readClause 103 = .ok (.invokevirtual 291, 3) := by decide +kernel
theorem dX11_readClause_106 : decode cX11_readClause 106 = .ok (.ireturn, 1) := by decide +kernel
theorem dX11_readClause_107 : decode cX11_readClause 107 = .ok (.aload_n 0, 1) := by decide +kernel
theorem dX11_readClause_108 : decode cX11_readClause 108 = .ok (.invokevirtual 294, 3) := by decide +kernel
theorem dX11_readClause_111 : decode cX11_readClause 111 = .ok (.ireturn, 1) := by decide +kernel
theorem dX11_readClause_112 : decode cX11_readClause 112 = .ok (.iload_n 1, 1) := by decide +kernel
theorem dX11_readClause_113 : decode cX11_readClause 113 = .ok (.bipush 6, 2) := by decide +kernel
theorem dX11_readClause_115 : decode cX11_readClause 115 = .ok (.if_icmp .eq 21, 3) := by decide +kernel
theorem dX11_readClause_118 : decode cX11_readClause 118 = .ok (.iload_n 1, 1) := by decide +kernel
theorem dX11_readClause_119 : decode cX11_readClause 119 = .ok (.bipush 7, 2) := by decide +kernel
theorem dX11_readClause_121 : decode cX11_readClause 121 = .ok (.if_icmp .eq 15, 3) := by decide +kernel
theorem dX11_readClause_124 : decode cX11_readClause 124 = .ok (.iload_n 1, 1) := by decide +kernel
theorem dX11_readClause_125 : decode cX11_readClause 125 = .ok (.bipush 8, 2) := by decide +kernel
theorem dX11_readClause_127 : decode cX11_readClause 127 = .ok (.if_icmp .eq 9, 3) := by decide +kernel
theorem dX11_readClause_130 : decode cX11_readClause 130 = .ok (.aload_n 0, 1) := by decide +kernel
theorem dX11_readClause_131 : decode cX11_readClause 131 = .ok (.iconst 1, 1) := by decide +kernel
theorem dX11_readClause_132 : decode cX11_readClause 132 = .ok (.invokevirtual 214, 3) := by decide +kernel
theorem dX11_readClause_135 : decode cX11_readClause 135 = .ok (.ireturn, 1) := by decide +kernel
theorem dX11_readClause_136 : decode cX11_readClause 136 = .ok (.aload_n 0, 1) := by decide +kernel
theorem dX11_readClause_137 : decode cX11_readClause 137 = .ok (.getfield 227, 3) := by decide +kernel
theorem dX11_readClause_140 : decode cX11_readClause 140 = .ok (.iload_n 1, 1) := by decide +kernel
theorem dX11_readClause_141 : decode cX11_readClause 141 = .ok (.ishr, 1) := by decide +kernel
theorem dX11_readClause_142 : decode cX11_readClause 142 = .ok (.iconst 1, 1) := by decide +kernel
theorem dX11_readClause_143 : decode cX11_readClause 143 = .ok (.iand, 1) := by decide +kernel
theorem dX11_readClause_144 : decode cX11_readClause 144 = .ok (.iconst 1, 1) := by decide +kernel
theorem dX11_readClause_145 : decode cX11_readClause 145 = .ok (.if_icmp .ne 9, 3) := by decide +kernel
theorem dX11_readClause_148 : decode cX11_readClause 148 = .ok (.aload_n 0, 1) := by decide +kernel
theorem dX11_readClause_149 : decode cX11_readClause 149 = .ok (.iconst 3, 1) := by decide +kernel
theorem dX11_readClause_150 : decode cX11_readClause 150 = .ok (.invokevirtual 214, 3) := by decide +kernel
theorem dX11_readClause_153 : decode cX11_readClause 153 = .ok (.ireturn, 1) := by decide +kernel
theorem dX11_readClause_154 : decode cX11_readClause 154 = .ok (.aload_n 0, 1) := by decide +kernel
theorem dX11_readClause_155 : decode cX11_readClause 155 = .ok (.dup, 1) := by decide +kernel
theorem dX11_readClause_156 : decode cX11_readClause 156 = .ok (.getfield 227, 3) := by decide +kernel
theorem dX11_readClause_159 : decode cX11_readClause 159 = .ok (.iconst 1, 1) := by decide +kernel
theorem dX11_readClause_160 : decode cX11_readClause 160 = .ok (.iload_n 1, 1) := by decide +kernel
theorem dX11_readClause_161 : decode cX11_readClause 161 = .ok (.ishl, 1) := by decide +kernel
theorem dX11_readClause_162 : decode cX11_readClause 162 = .ok (.ior, 1) := by decide +kernel
theorem dX11_readClause_163 : decode cX11_readClause 163 = .ok (.putfield 227, 3) := by decide +kernel
theorem dX11_readClause_166 : decode cX11_readClause 166 = .ok (.aload_n 0, 1) := by decide +kernel
theorem dX11_readClause_167 : decode cX11_readClause 167 = .ok (.invokevirtual 224, 3) := by decide +kernel
theorem dX11_readClause_170 : decode cX11_readClause 170 = .ok (.iload_n 1, 1) := by decide +kernel
theorem dX11_readClause_171 : decode cX11_readClause 171 = .ok (.bipush 7, 2) := by decide +kernel
theorem dX11_readClause_173 : decode cX11_readClause 173 = .ok (.if_icmp .ne 16, 3) := by decide +kernel
theorem dX11_readClause_176 : decode cX11_readClause 176 = .ok (.aload_n 0, 1) := by decide +kernel
theorem dX11_readClause_177 : decode cX11_readClause 177 = .ok (.iconst 1, 1) := by decide +kernel
theorem dX11_readClause_178 : decode cX11_readClause 178 = .ok (.bipush 28, 2) := by decide +kernel
theorem dX11_readClause_180 : decode cX11_readClause 180 = .ok (.invokevirtual 266, 3) := by decide +kernel
theorem dX11_readClause_183 : decode cX11_readClause 183 = .ok (.ifCond .eq 17, 3) := by decide +kernel
theorem dX11_readClause_186 : decode cX11_readClause 186 = .ok (.goto 16, 3) := by decide +kernel
theorem dX11_readClause_189 : decode cX11_readClause 189 = .ok (.aload_n 0, 1) := by decide +kernel
theorem dX11_readClause_190 : decode cX11_readClause 190 = .ok (.iconst 0, 1) := by decide +kernel
theorem dX11_readClause_191 : decode cX11_readClause 191 = .ok (.sipush 4095, 3) := by decide +kernel
theorem dX11_readClause_194 : decode cX11_readClause 194 = .ok (.invokevirtual 266, 3) := by decide +kernel
theorem dX11_readClause_197 : decode cX11_readClause 197 = .ok (.ifCond .ne 5, 3) := by decide +kernel
theorem dX11_readClause_200 : decode cX11_readClause 200 = .ok (.iconst 0, 1) := by decide +kernel
theorem dX11_readClause_201 : decode cX11_readClause 201 = .ok (.ireturn, 1) := by decide +kernel
theorem dX11_readClause_202 : decode cX11_readClause 202 = .ok (.aload_n 0, 1) := by decide +kernel
theorem dX11_readClause_203 : decode cX11_readClause 203 = .ok (.getfield 17, 3) := by decide +kernel
theorem dX11_readClause_206 : decode cX11_readClause 206 = .ok (.bipush 11, 2) := by decide +kernel
theorem dX11_readClause_208 : decode cX11_readClause 208 = .ok (.iload_n 1, 1) := by decide +kernel
theorem dX11_readClause_209 : decode cX11_readClause 209 = .ok (.bipush 6, 2) := by decide +kernel
theorem dX11_readClause_211 : decode cX11_readClause 211 = .ok (.if_icmp .ne 7, 3) := by decide +kernel
theorem dX11_readClause_214 : decode cX11_readClause 214 = .ok (.iconst 4, 1) := by decide +kernel
theorem dX11_readClause_215 : decode cX11_readClause 215 = .ok (.goto 15, 3) := by decide +kernel
theorem dX11_readClause_218 : decode cX11_readClause 218 = .ok (.iload_n 1, 1) := by decide +kernel
theorem dX11_readClause_219 : decode cX11_readClause 219 = .ok (.bipush 7, 2) := by decide +kernel
theorem dX11_readClause_221 : decode cX11_readClause 221 = .ok (.if_icmp .ne 7, 3) := by decide +kernel
theorem dX11_readClause_224 : decode cX11_readClause 224 = .ok (.iconst 5, 1) := by decide +kernel
theorem dX11_readClause_225 : decode cX11_readClause 225 = .ok (.goto 5, 3) := by decide +kernel
theorem dX11_readClause_228 : decode cX11_readClause 228 = .ok (.bipush 8, 2) := by decide +kernel
theorem dX11_readClause_230 : decode cX11_readClause 230 = .ok (.iadd, 1) := by decide +kernel
theorem dX11_readClause_231 : decode cX11_readClause 231 = .ok (.aload_n 0, 1) := by decide +kernel
theorem dX11_readClause_232 : decode cX11_readClause 232 = .ok (.getfield 221, 3) := by decide +kernel
theorem dX11_readClause_235 : decode cX11_readClause 235 = .ok (.iastore, 1) := by decide +kernel
theorem dX11_readClause_236 : decode cX11_readClause 236 = .ok (.iconst 1, 1) := by decide +kernel
theorem dX11_readClause_237 : decode cX11_readClause 237 = .ok (.ireturn, 1) := by decide +kernel
noncomputable def f_X11_readClause_J230 (a0 : Nat) (k0 : Nat) (k1 : Int32) (k2 : Int32) (μ : Mm) : Option (Int32 × Mm) :=
  (gf_I 12 11 a0 μ).bind fun x232 => (pa_I k0 (k1 + k2) x232 μ).bind fun μ235 => some ((1 : Int32), μ235)
noncomputable def f_X11_readClause_J202 (a0 : Nat) (l1 : Int32) (μ : Mm) : Option (Int32 × Mm) :=
  (gf_P 12 12 a0 μ).bind fun x203 => if l1 = (6 : Int32) then f_X11_readClause_J230 a0 x203 (11 : Int32) (4 : Int32) μ else if l1 = (7 : Int32) then f_X11_readClause_J230 a0 x203 (11 : Int32) (5 : Int32) μ else f_X11_readClause_J230 a0 x203 (11 : Int32) (8 : Int32) μ
noncomputable def f_X11_readClause_J136 (a0 : Nat) (l1 : Int32) (μ : Mm) : Option (Int32 × Mm) :=
  (gf_I 12 31 a0 μ).bind fun x137 => if ((x137 >>> (l1 &&& 31)) &&& (1 : Int32)) = (1 : Int32) then (f_X11_fails a0 (3 : Int32) μ).bind fun x150 => if x150.1 = 0 ∨ x150.1 = 1 then some (x150.1, x150.2) else none else (gf_I 12 31 a0 μ).bind fun x156 => (pf_I 12 31 a0 (x156 ||| ((1 : Int32) <<< (l1 &&& 31))) μ).bind fun μ163 => (f_X11_scan a0 μ163).bind fun x167 => if l1 = (7 : Int32) then (f_X11_readNumber a0 (1 : Int32) (28 : Int32) x167).bind fun x180 => if x180.1 = 0 then some ((0 : Int32), x180.2) else f_X11_readClause_J202 a0 l1 x180.2 else (f_X11_readNumber a0 (0 : Int32) (4095 : Int32) x167).bind fun x194 => if x194.1 = 0 then some ((0 : Int32), x194.2) else f_X11_readClause_J202 a0 l1 x194.2
noncomputable def f_X11_readClause_J16 (a0 : Nat) (k0 : Int32) (μ : Mm) : Option (Int32 × Mm) :=
  if k0 = 0 then (f_X11_readPerson a0 μ).bind fun x81 => if x81.1 = 0 ∨ x81.1 = 1 then some (x81.1, x81.2) else none else if k0 = 1 then (f_X11_readDreams a0 μ).bind fun x86 => if x86.1 = 0 ∨ x86.1 = 1 then some (x86.1, x86.2) else none else if k0 = 2 then (f_X11_readByPerson a0 k0 μ).bind fun x97 => if x97.1 = 0 ∨ x97.1 = 1 then some (x97.1, x97.2) else none else if k0 = 3 then (f_X11_readTalk a0 μ).bind fun x91 => if x91.1 = 0 ∨ x91.1 = 1 then some (x91.1, x91.2) else none else if k0 = 4 then (f_X11_readByPerson a0 k0 μ).bind fun x97 => if x97.1 = 0 ∨ x97.1 = 1 then some (x97.1, x97.2) else none else if k0 = 5 then (f_X11_readByPerson a0 k0 μ).bind fun x97 => if x97.1 = 0 ∨ x97.1 = 1 then some (x97.1, x97.2) else none else if k0 = 6 then if k0 = (6 : Int32) then f_X11_readClause_J136 a0 k0 μ else if k0 = (7 : Int32) then f_X11_readClause_J136 a0 k0 μ else if k0 = (8 : Int32) then f_X11_readClause_J136 a0 k0 μ else (f_X11_fails a0 (1 : Int32) μ).bind fun x132 => if x132.1 = 0 ∨ x132.1 = 1 then some (x132.1, x132.2) else none else if k0 = 7 then if k0 = (6 : Int32) then f_X11_readClause_J136 a0 k0 μ else if k0 = (7 : Int32) then f_X11_readClause_J136 a0 k0 μ else if k0 = (8 : Int32) then f_X11_readClause_J136 a0 k0 μ else (f_X11_fails a0 (1 : Int32) μ).bind fun x132 => if x132.1 = 0 ∨ x132.1 = 1 then some (x132.1, x132.2) else none else if k0 = 8 then if k0 = (6 : Int32) then f_X11_readClause_J136 a0 k0 μ else if k0 = (7 : Int32) then f_X11_readClause_J136 a0 k0 μ else if k0 = (8 : Int32) then f_X11_readClause_J136 a0 k0 μ else (f_X11_fails a0 (1 : Int32) μ).bind fun x132 => if x132.1 = 0 ∨ x132.1 = 1 then some (x132.1, x132.2) else none else if k0 = 9 then (f_X11_readWish a0 k0 μ).bind fun x103 => if x103.1 = 0 ∨ x103.1 = 1 then some (x103.1, x103.2) else none else if k0 = 10 then (f_X11_readWish a0 k0 μ).bind fun x103 => if x103.1 = 0 ∨ x103.1 = 1 then some (x103.1, x103.2) else none else if k0 = 11 then (f_X11_readTrade a0 μ).bind fun x108 => if x108.1 = 0 ∨ x108.1 = 1 then some (x108.1, x108.2) else none else if k0 = (6 : Int32) then f_X11_readClause_J136 a0 k0 μ else if k0 = (7 : Int32) then f_X11_readClause_J136 a0 k0 μ else if k0 = (8 : Int32) then f_X11_readClause_J136 a0 k0 μ else (f_X11_fails a0 (1 : Int32) μ).bind fun x132 => if x132.1 = 0 ∨ x132.1 = 1 then some (x132.1, x132.2) else none
noncomputable def f_X11_readClause (a0 : Nat) (μ : Mm) : Option (Int32 × Mm) :=
  if (mm_K μ a0).1 = 12 then (gf_I 12 3 a0 μ).bind fun x1 => if x1 = (1 : Int32) then (gf_I 12 4 a0 μ).bind fun x9 => f_X11_readClause_J16 a0 x9 μ else f_X11_readClause_J16 a0 (-1 : Int32) μ else none
abbrev Rn_X11_readClause (G : Gv) (Q : Option Value → Mm → Prop) (pc : Nat) (lv : List (Nat × Value)) (st : List Value) (μ : Mm) : Prop := Rn G RX11 cX11_readClause 2 (some .boolean) "readClause" (rmd 9 0 0) (Zm G 0 0 Q) 0 0 pc lv st μ
set_option maxRecDepth 100000 in
set_option maxHeartbeats 4000000 in
theorem m_X11_readClause {G : Gv} (a0 : Nat) (μ : Mm) {r : (Int32 × Mm)} (hx : f_X11_readClause a0 μ = some r) : Mt G yX11_readClause cX11_readClause 2 (some .boolean) 9 0 0 [.ref a0] μ (fun v μ' => v = some (.int r.1) ∧ μ' = r.2) := by
  refine Mt.of (by decide) (Nat.le_of_ble_eq_true rfl) ?_
  show Rn_X11_readClause G (fun v μ' => v = some (.int r.1) ∧ μ' = r.2) 0 [(0, .ref a0)] [] μ
  obtain ⟨_, h⟩ := Sat_ifp (show Sat (f_X11_readClause a0 μ) (fun x => x = r) from ⟨_, hx, rfl⟩)
  have J230 : ∀ (a0_230 : Nat) (k0_230 : Nat) (k1_230 : Int32) (k2_230 : Int32) (μ_230 : Mm), Sat (f_X11_readClause_J230 a0_230 k0_230 k1_230 k2_230 μ_230) (fun x => x = r) → Rn_X11_readClause G (fun v μ' => v = some (.int r.1) ∧ μ' = r.2) 230 [(0, .ref a0_230)] [.int k2_230, .int k1_230, .ref k0_230] μ_230 := by
    intro a0_230 k0_230 k1_230 k2_230 μ_230 h
    refine r_iadd dX11_readClause_230 ?_
    refine r_aload_n dX11_readClause_231 0 rfl ?_
    obtain ⟨x232, e232, h⟩ := Sat_bind h
    refine r_getI fk_X11_221 rfl e232 dX11_readClause_232 ?_
    obtain ⟨μ235, e235, h⟩ := Sat_bind h
    refine r_iastore e235 dX11_readClause_235 ?_
    refine r_iconst (v := 1) dX11_readClause_236 (by decide) ?_
    exact r_zreturn rfl (by decide) (by rw [← Sat_eq h]; exact ⟨rfl, rfl⟩) dX11_readClause_237
  have J202 : ∀ (a0_202 : Nat) (l1_202 : Int32) (μ_202 : Mm), Sat (f_X11_readClause_J202 a0_202 l1_202 μ_202) (fun x => x = r) → Rn_X11_readClause G (fun v μ' => v = some (.int r.1) ∧ μ' = r.2) 202 [(0, .ref a0_202), (1, .int l1_202)] [] μ_202 := by
    intro a0_202 l1_202 μ_202 h
    refine r_aload_n dX11_readClause_202 0 rfl ?_
    obtain ⟨x203, e203, h⟩ := Sat_bind h
    refine r_getP fk_X11_17 rfl e203 dX11_readClause_203 ?_
    refine r_bipush (v := 11) dX11_readClause_206 (by decide) ?_
    refine r_iload_n dX11_readClause_208 1 rfl ?_
    refine r_bipush (v := 6) dX11_readClause_209 (by decide) ?_
    refine r_icmp_ne 218 dX11_readClause_211 (by decide) (fun c211 => ?_) (fun c211 => ?_)
    · have h := Sat_neg c211 h
      refine r_iload_n dX11_readClause_218 1 rfl ?_
      refine r_bipush (v := 7) dX11_readClause_219 (by decide) ?_
      refine r_icmp_ne 228 dX11_readClause_221 (by decide) (fun c221 => ?_) (fun c221 => ?_)
      · have h := Sat_neg c221 h
        refine r_bipush (v := 8) dX11_readClause_228 (by decide) ?_
        exact r_sub [0] rfl (J230 a0_202 x203 (11 : Int32) (8 : Int32) μ_202 h)
      · have h := Sat_pos c221 h
        refine r_iconst (v := 5) dX11_readClause_224 (by decide) ?_
        refine r_goto 230 dX11_readClause_225 (by decide) ?_
        exact r_sub [0] rfl (J230 a0_202 x203 (11 : Int32) (5 : Int32) μ_202 h)
    · have h := Sat_pos c211 h
      refine r_iconst (v := 4) dX11_readClause_214 (by decide) ?_
      refine r_goto 230 dX11_readClause_215 (by decide) ?_
      exact r_sub [0] rfl (J230 a0_202 x203 (11 : Int32) (4 : Int32) μ_202 h)
  have J136 : ∀ (a0_136 : Nat) (l1_136 : Int32) (μ_136 : Mm), Sat (f_X11_readClause_J136 a0_136 l1_136 μ_136) (fun x => x = r) → Rn_X11_readClause G (fun v μ' => v = some (.int r.1) ∧ μ' = r.2) 136 [(0, .ref a0_136), (1, .int l1_136)] [] μ_136 := by
    intro a0_136 l1_136 μ_136 h
    refine r_aload_n dX11_readClause_136 0 rfl ?_
    obtain ⟨x137, e137, h⟩ := Sat_bind h
    refine r_getI fk_X11_227 rfl e137 dX11_readClause_137 ?_
    refine r_iload_n dX11_readClause_140 1 rfl ?_
    refine r_ishr dX11_readClause_141 ?_
    refine r_iconst (v := 1) dX11_readClause_142 (by decide) ?_
    refine r_iand dX11_readClause_143 ?_
    refine r_iconst (v := 1) dX11_readClause_144 (by decide) ?_
    refine r_icmp_ne 154 dX11_readClause_145 (by decide) (fun c145 => ?_) (fun c145 => ?_)
    · have h := Sat_neg c145 h
      refine r_aload_n dX11_readClause_154 0 rfl ?_
      refine r_dup dX11_readClause_155 rfl ?_
      obtain ⟨x156, e156, h⟩ := Sat_bind h
      refine r_getI fk_X11_227 rfl e156 dX11_readClause_156 ?_
      refine r_iconst (v := 1) dX11_readClause_159 (by decide) ?_
      refine r_iload_n dX11_readClause_160 1 rfl ?_
      refine r_ishl dX11_readClause_161 ?_
      refine r_ior dX11_readClause_162 ?_
      obtain ⟨μ163, e163, h⟩ := Sat_bind h
      refine r_putI fk_X11_227 rfl rfl e163 dX11_readClause_163 ?_
      refine r_aload_n dX11_readClause_166 0 rfl ?_
      obtain ⟨x167, e167, h⟩ := Sat_bind h
      refine r_cV (t := 12) [] [] (m_X11_scan a0_136 μ163 e167) ck_X11_scan lk_X11_224 in_X11_scan se_X11_scan (kd_of e167) ⟨rfl, by decide, by decide⟩ rfl rfl (Nat.le_of_ble_eq_true rfl) ⟨by decide, by decide⟩ ⟨Nat.zero_le _, Nat.zero_le _⟩ dX11_readClause_167 ?_
      refine r_iload_n dX11_readClause_170 1 rfl ?_
      refine r_bipush (v := 7) dX11_readClause_171 (by decide) ?_
      refine r_icmp_ne 189 dX11_readClause_173 (by decide) (fun c173 => ?_) (fun c173 => ?_)
      · have h := Sat_neg c173 h
        refine r_aload_n dX11_readClause_189 0 rfl ?_
        refine r_iconst (v := 0) dX11_readClause_190 (by decide) ?_
        refine r_sipush (v := 4095) dX11_readClause_191 (by decide) ?_
        obtain ⟨x194, e194, h⟩ := Sat_bind h
        refine r_cV (t := 12) [.int (0 : Int32), .int (4095 : Int32)] [] (m_X11_readNumber a0_136 (0 : Int32) (4095 : Int32) x167 e194) ck_X11_readNumber lk_X11_266 in_X11_readNumber se_X11_readNumber (kd_of e194) ⟨rfl, by decide, by decide⟩ rfl rfl (Nat.le_of_ble_eq_true rfl) ⟨by decide, by decide⟩ ⟨Nat.zero_le _, Nat.zero_le _⟩ dX11_readClause_194 ?_
        refine r_if_ne 202 dX11_readClause_197 (by decide) (fun c197 => ?_) (fun c197 => ?_)
        · have h := Sat_neg c197 h
          exact r_sub [0, 1] rfl (J202 a0_136 l1_136 x194.2 h)
        · have h := Sat_pos c197 h
          refine r_iconst (v := 0) dX11_readClause_200 (by decide) ?_
          exact r_zreturn rfl (by decide) (by rw [← Sat_eq h]; exact ⟨rfl, rfl⟩) dX11_readClause_201
      · have h := Sat_pos c173 h
        refine r_aload_n dX11_readClause_176 0 rfl ?_
        refine r_iconst (v := 1) dX11_readClause_177 (by decide) ?_
        refine r_bipush (v := 28) dX11_readClause_178 (by decide) ?_
        obtain ⟨x180, e180, h⟩ := Sat_bind h
        refine r_cV (t := 12) [.int (1 : Int32), .int (28 : Int32)] [] (m_X11_readNumber a0_136 (1 : Int32) (28 : Int32) x167 e180) ck_X11_readNumber lk_X11_266 in_X11_readNumber se_X11_readNumber (kd_of e180) ⟨rfl, by decide, by decide⟩ rfl rfl (Nat.le_of_ble_eq_true rfl) ⟨by decide, by decide⟩ ⟨Nat.zero_le _, Nat.zero_le _⟩ dX11_readClause_180 ?_
        refine r_if_eq 200 dX11_readClause_183 (by decide) (fun c183 => ?_) (fun c183 => ?_)
        · have h := Sat_pos c183 h
          refine r_iconst (v := 0) dX11_readClause_200 (by decide) ?_
          exact r_zreturn rfl (by decide) (by rw [← Sat_eq h]; exact ⟨rfl, rfl⟩) dX11_readClause_201
        · have h := Sat_neg c183 h
          refine r_goto 202 dX11_readClause_186 (by decide) ?_
          exact r_sub [0, 1] rfl (J202 a0_136 l1_136 x180.2 h)
    · have h := Sat_pos c145 h
      refine r_aload_n dX11_readClause_148 0 rfl ?_
      refine r_iconst (v := 3) dX11_readClause_149 (by decide) ?_
      obtain ⟨x150, e150, h⟩ := Sat_bind h
      refine r_cV (t := 12) [.int (3 : Int32)] [] (m_X11_fails a0_136 (3 : Int32) μ_136 e150) ck_X11_fails lk_X11_214 in_X11_fails se_X11_fails (kd_of e150) ⟨rfl, by decide, by decide⟩ rfl rfl (Nat.le_of_ble_eq_true rfl) ⟨by decide, by decide⟩ ⟨Nat.zero_le _, Nat.zero_le _⟩ dX11_readClause_150 ?_
      obtain ⟨hz, h⟩ := Sat_ifp h
      exact r_zreturn rfl hz (by rw [← Sat_eq h]; exact ⟨rfl, rfl⟩) dX11_readClause_153
  have J16 : ∀ (a0_16 : Nat) (k0_16 : Int32) (μ_16 : Mm), Sat (f_X11_readClause_J16 a0_16 k0_16 μ_16) (fun x => x = r) → Rn_X11_readClause G (fun v μ' => v = some (.int r.1) ∧ μ' = r.2) 16 [(0, .ref a0_16)] [.int k0_16] μ_16 := by
    intro a0_16 k0_16 μ_16 h
    refine r_istore_n (lv' := [(1, .int k0_16), (0, .ref a0_16)]) dX11_readClause_16 rfl (by decide) rfl ?_
    refine r_iload_n dX11_readClause_17 0 rfl ?_
    by_cases c18_0 : k0_16 = 0
    · have h := Sat_pos c18_0 h
      refine r_tabIn c18_0 62 80 dX11_readClause_18 (by decide) (by decide) (by decide) (by decide) ?_
      refine r_aload_n dX11_readClause_80 1 rfl ?_
      obtain ⟨x81, e81, h⟩ := Sat_bind h
      refine r_cV (t := 12) [] [] (m_X11_readPerson a0_16 μ_16 e81) ck_X11_readPerson lk_X11_278 in_X11_readPerson se_X11_readPerson (kd_of e81) ⟨rfl, by decide, by decide⟩ rfl rfl (Nat.le_of_ble_eq_true rfl) ⟨by decide, by decide⟩ ⟨Nat.zero_le _, Nat.zero_le _⟩ dX11_readClause_81 ?_
      obtain ⟨hz, h⟩ := Sat_ifp h
      exact r_zreturn rfl hz (by rw [← Sat_eq h]; exact ⟨rfl, rfl⟩) dX11_readClause_84
    have h := Sat_neg c18_0 h
    by_cases c18_1 : k0_16 = 1
    · have h := Sat_pos c18_1 h
      refine r_tabIn c18_1 67 85 dX11_readClause_18 (by decide) (by decide) (by decide) (by decide) ?_
      refine r_aload_n dX11_readClause_85 1 rfl ?_
      obtain ⟨x86, e86, h⟩ := Sat_bind h
      refine r_cV (t := 12) [] [] (m_X11_readDreams a0_16 μ_16 e86) ck_X11_readDreams lk_X11_282 in_X11_readDreams se_X11_readDreams (kd_of e86) ⟨rfl, by decide, by decide⟩ rfl rfl (Nat.le_of_ble_eq_true rfl) ⟨by decide, by decide⟩ ⟨Nat.zero_le _, Nat.zero_le _⟩ dX11_readClause_86 ?_
      obtain ⟨hz, h⟩ := Sat_ifp h
      exact r_zreturn rfl hz (by rw [← Sat_eq h]; exact ⟨rfl, rfl⟩) dX11_readClause_89
    have h := Sat_neg c18_1 h
    by_cases c18_2 : k0_16 = 2
    · have h := Sat_pos c18_2 h
      refine r_tabIn c18_2 77 95 dX11_readClause_18 (by decide) (by decide) (by decide) (by decide) ?_
      refine r_aload_n dX11_readClause_95 1 rfl ?_
      refine r_iload_n dX11_readClause_96 0 rfl ?_
      obtain ⟨x97, e97, h⟩ := Sat_bind h
      refine r_cV (t := 12) [.int k0_16] [] (m_X11_readByPerson a0_16 k0_16 μ_16 e97) ck_X11_readByPerson lk_X11_288 in_X11_readByPerson se_X11_readByPerson (kd_of e97) ⟨rfl, by decide, by decide⟩ rfl rfl (Nat.le_of_ble_eq_true rfl) ⟨by decide, by decide⟩ ⟨Nat.zero_le _, Nat.zero_le _⟩ dX11_readClause_97 ?_
      obtain ⟨hz, h⟩ := Sat_ifp h
      exact r_zreturn rfl hz (by rw [← Sat_eq h]; exact ⟨rfl, rfl⟩) dX11_readClause_100
    have h := Sat_neg c18_2 h
    by_cases c18_3 : k0_16 = 3
    · have h := Sat_pos c18_3 h
      refine r_tabIn c18_3 72 90 dX11_readClause_18 (by decide) (by decide) (by decide) (by decide) ?_
      refine r_aload_n dX11_readClause_90 1 rfl ?_
      obtain ⟨x91, e91, h⟩ := Sat_bind h
      refine r_cV (t := 12) [] [] (m_X11_readTalk a0_16 μ_16 e91) ck_X11_readTalk lk_X11_285 in_X11_readTalk se_X11_readTalk (kd_of e91) ⟨rfl, by decide, by decide⟩ rfl rfl (Nat.le_of_ble_eq_true rfl) ⟨by decide, by decide⟩ ⟨Nat.zero_le _, Nat.zero_le _⟩ dX11_readClause_91 ?_
      obtain ⟨hz, h⟩ := Sat_ifp h
      exact r_zreturn rfl hz (by rw [← Sat_eq h]; exact ⟨rfl, rfl⟩) dX11_readClause_94
    have h := Sat_neg c18_3 h
    by_cases c18_4 : k0_16 = 4
    · have h := Sat_pos c18_4 h
      refine r_tabIn c18_4 77 95 dX11_readClause_18 (by decide) (by decide) (by decide) (by decide) ?_
      refine r_aload_n dX11_readClause_95 1 rfl ?_
      refine r_iload_n dX11_readClause_96 0 rfl ?_
      obtain ⟨x97, e97, h⟩ := Sat_bind h
      refine r_cV (t := 12) [.int k0_16] [] (m_X11_readByPerson a0_16 k0_16 μ_16 e97) ck_X11_readByPerson lk_X11_288 in_X11_readByPerson se_X11_readByPerson (kd_of e97) ⟨rfl, by decide, by decide⟩ rfl rfl (Nat.le_of_ble_eq_true rfl) ⟨by decide, by decide⟩ ⟨Nat.zero_le _, Nat.zero_le _⟩ dX11_readClause_97 ?_
      obtain ⟨hz, h⟩ := Sat_ifp h
      exact r_zreturn rfl hz (by rw [← Sat_eq h]; exact ⟨rfl, rfl⟩) dX11_readClause_100
    have h := Sat_neg c18_4 h
    by_cases c18_5 : k0_16 = 5
    · have h := Sat_pos c18_5 h
      refine r_tabIn c18_5 77 95 dX11_readClause_18 (by decide) (by decide) (by decide) (by decide) ?_
      refine r_aload_n dX11_readClause_95 1 rfl ?_
      refine r_iload_n dX11_readClause_96 0 rfl ?_
      obtain ⟨x97, e97, h⟩ := Sat_bind h
      refine r_cV (t := 12) [.int k0_16] [] (m_X11_readByPerson a0_16 k0_16 μ_16 e97) ck_X11_readByPerson lk_X11_288 in_X11_readByPerson se_X11_readByPerson (kd_of e97) ⟨rfl, by decide, by decide⟩ rfl rfl (Nat.le_of_ble_eq_true rfl) ⟨by decide, by decide⟩ ⟨Nat.zero_le _, Nat.zero_le _⟩ dX11_readClause_97 ?_
      obtain ⟨hz, h⟩ := Sat_ifp h
      exact r_zreturn rfl hz (by rw [← Sat_eq h]; exact ⟨rfl, rfl⟩) dX11_readClause_100
    have h := Sat_neg c18_5 h
    by_cases c18_6 : k0_16 = 6
    · have h := Sat_pos c18_6 h
      refine r_tabIn c18_6 94 112 dX11_readClause_18 (by decide) (by decide) (by decide) (by decide) ?_
      refine r_iload_n dX11_readClause_112 0 rfl ?_
      refine r_bipush (v := 6) dX11_readClause_113 (by decide) ?_
      refine r_icmp_eq 136 dX11_readClause_115 (by decide) (fun c115 => ?_) (fun c115 => ?_)
      · have h := Sat_pos c115 h
        exact r_sub [1, 0] rfl (J136 a0_16 k0_16 μ_16 h)
      · have h := Sat_neg c115 h
        refine r_iload_n dX11_readClause_118 0 rfl ?_
        refine r_bipush (v := 7) dX11_readClause_119 (by decide) ?_
        refine r_icmp_eq 136 dX11_readClause_121 (by decide) (fun c121 => ?_) (fun c121 => ?_)
        · have h := Sat_pos c121 h
          exact r_sub [1, 0] rfl (J136 a0_16 k0_16 μ_16 h)
        · have h := Sat_neg c121 h
          refine r_iload_n dX11_readClause_124 0 rfl ?_
          refine r_bipush (v := 8) dX11_readClause_125 (by decide) ?_
          refine r_icmp_eq 136 dX11_readClause_127 (by decide) (fun c127 => ?_) (fun c127 => ?_)
          · have h := Sat_pos c127 h
            exact r_sub [1, 0] rfl (J136 a0_16 k0_16 μ_16 h)
          · have h := Sat_neg c127 h
            refine r_aload_n dX11_readClause_130 1 rfl ?_
            refine r_iconst (v := 1) dX11_readClause_131 (by decide) ?_
            obtain ⟨x132, e132, h⟩ := Sat_bind h
            refine r_cV (t := 12) [.int (1 : Int32)] [] (m_X11_fails a0_16 (1 : Int32) μ_16 e132) ck_X11_fails lk_X11_214 in_X11_fails se_X11_fails (kd_of e132) ⟨rfl, by decide, by decide⟩ rfl rfl (Nat.le_of_ble_eq_true rfl) ⟨by decide, by decide⟩ ⟨Nat.zero_le _, Nat.zero_le _⟩ dX11_readClause_132 ?_
            obtain ⟨hz, h⟩ := Sat_ifp h
            exact r_zreturn rfl hz (by rw [← Sat_eq h]; exact ⟨rfl, rfl⟩) dX11_readClause_135
    have h := Sat_neg c18_6 h
    by_cases c18_7 : k0_16 = 7
    · have h := Sat_pos c18_7 h
      refine r_tabIn c18_7 94 112 dX11_readClause_18 (by decide) (by decide) (by decide) (by decide) ?_
      refine r_iload_n dX11_readClause_112 0 rfl ?_
      refine r_bipush (v := 6) dX11_readClause_113 (by decide) ?_
      refine r_icmp_eq 136 dX11_readClause_115 (by decide) (fun c115 => ?_) (fun c115 => ?_)
      · have h := Sat_pos c115 h
        exact r_sub [1, 0] rfl (J136 a0_16 k0_16 μ_16 h)
      · have h := Sat_neg c115 h
        refine r_iload_n dX11_readClause_118 0 rfl ?_
        refine r_bipush (v := 7) dX11_readClause_119 (by decide) ?_
        refine r_icmp_eq 136 dX11_readClause_121 (by decide) (fun c121 => ?_) (fun c121 => ?_)
        · have h := Sat_pos c121 h
          exact r_sub [1, 0] rfl (J136 a0_16 k0_16 μ_16 h)
        · have h := Sat_neg c121 h
          refine r_iload_n dX11_readClause_124 0 rfl ?_
          refine r_bipush (v := 8) dX11_readClause_125 (by decide) ?_
          refine r_icmp_eq 136 dX11_readClause_127 (by decide) (fun c127 => ?_) (fun c127 => ?_)
          · have h := Sat_pos c127 h
            exact r_sub [1, 0] rfl (J136 a0_16 k0_16 μ_16 h)
          · have h := Sat_neg c127 h
            refine r_aload_n dX11_readClause_130 1 rfl ?_
            refine r_iconst (v := 1) dX11_readClause_131 (by decide) ?_
            obtain ⟨x132, e132, h⟩ := Sat_bind h
            refine r_cV (t := 12) [.int (1 : Int32)] [] (m_X11_fails a0_16 (1 : Int32) μ_16 e132) ck_X11_fails lk_X11_214 in_X11_fails se_X11_fails (kd_of e132) ⟨rfl, by decide, by decide⟩ rfl rfl (Nat.le_of_ble_eq_true rfl) ⟨by decide, by decide⟩ ⟨Nat.zero_le _, Nat.zero_le _⟩ dX11_readClause_132 ?_
            obtain ⟨hz, h⟩ := Sat_ifp h
            exact r_zreturn rfl hz (by rw [← Sat_eq h]; exact ⟨rfl, rfl⟩) dX11_readClause_135
    have h := Sat_neg c18_7 h
    by_cases c18_8 : k0_16 = 8
    · have h := Sat_pos c18_8 h
      refine r_tabIn c18_8 94 112 dX11_readClause_18 (by decide) (by decide) (by decide) (by decide) ?_
      refine r_iload_n dX11_readClause_112 0 rfl ?_
      refine r_bipush (v := 6) dX11_readClause_113 (by decide) ?_
      refine r_icmp_eq 136 dX11_readClause_115 (by decide) (fun c115 => ?_) (fun c115 => ?_)
      · have h := Sat_pos c115 h
        exact r_sub [1, 0] rfl (J136 a0_16 k0_16 μ_16 h)
      · have h := Sat_neg c115 h
        refine r_iload_n dX11_readClause_118 0 rfl ?_
        refine r_bipush (v := 7) dX11_readClause_119 (by decide) ?_
        refine r_icmp_eq 136 dX11_readClause_121 (by decide) (fun c121 => ?_) (fun c121 => ?_)
        · have h := Sat_pos c121 h
          exact r_sub [1, 0] rfl (J136 a0_16 k0_16 μ_16 h)
        · have h := Sat_neg c121 h
          refine r_iload_n dX11_readClause_124 0 rfl ?_
          refine r_bipush (v := 8) dX11_readClause_125 (by decide) ?_
          refine r_icmp_eq 136 dX11_readClause_127 (by decide) (fun c127 => ?_) (fun c127 => ?_)
          · have h := Sat_pos c127 h
            exact r_sub [1, 0] rfl (J136 a0_16 k0_16 μ_16 h)
          · have h := Sat_neg c127 h
            refine r_aload_n dX11_readClause_130 1 rfl ?_
            refine r_iconst (v := 1) dX11_readClause_131 (by decide) ?_
            obtain ⟨x132, e132, h⟩ := Sat_bind h
            refine r_cV (t := 12) [.int (1 : Int32)] [] (m_X11_fails a0_16 (1 : Int32) μ_16 e132) ck_X11_fails lk_X11_214 in_X11_fails se_X11_fails (kd_of e132) ⟨rfl, by decide, by decide⟩ rfl rfl (Nat.le_of_ble_eq_true rfl) ⟨by decide, by decide⟩ ⟨Nat.zero_le _, Nat.zero_le _⟩ dX11_readClause_132 ?_
            obtain ⟨hz, h⟩ := Sat_ifp h
            exact r_zreturn rfl hz (by rw [← Sat_eq h]; exact ⟨rfl, rfl⟩) dX11_readClause_135
    have h := Sat_neg c18_8 h
    by_cases c18_9 : k0_16 = 9
    · have h := Sat_pos c18_9 h
      refine r_tabIn c18_9 83 101 dX11_readClause_18 (by decide) (by decide) (by decide) (by decide) ?_
      refine r_aload_n dX11_readClause_101 1 rfl ?_
      refine r_iload_n dX11_readClause_102 0 rfl ?_
      obtain ⟨x103, e103, h⟩ := Sat_bind h
      refine r_cV (t := 12) [.int k0_16] [] (m_X11_readWish a0_16 k0_16 μ_16 e103) ck_X11_readWish lk_X11_291 in_X11_readWish se_X11_readWish (kd_of e103) ⟨rfl, by decide, by decide⟩ rfl rfl (Nat.le_of_ble_eq_true rfl) ⟨by decide, by decide⟩ ⟨Nat.zero_le _, Nat.zero_le _⟩ dX11_readClause_103 ?_
      obtain ⟨hz, h⟩ := Sat_ifp h
      exact r_zreturn rfl hz (by rw [← Sat_eq h]; exact ⟨rfl, rfl⟩) dX11_readClause_106
    have h := Sat_neg c18_9 h
    by_cases c18_10 : k0_16 = 10
    · have h := Sat_pos c18_10 h
      refine r_tabIn c18_10 83 101 dX11_readClause_18 (by decide) (by decide) (by decide) (by decide) ?_
      refine r_aload_n dX11_readClause_101 1 rfl ?_
      refine r_iload_n dX11_readClause_102 0 rfl ?_
      obtain ⟨x103, e103, h⟩ := Sat_bind h
      refine r_cV (t := 12) [.int k0_16] [] (m_X11_readWish a0_16 k0_16 μ_16 e103) ck_X11_readWish lk_X11_291 in_X11_readWish se_X11_readWish (kd_of e103) ⟨rfl, by decide, by decide⟩ rfl rfl (Nat.le_of_ble_eq_true rfl) ⟨by decide, by decide⟩ ⟨Nat.zero_le _, Nat.zero_le _⟩ dX11_readClause_103 ?_
      obtain ⟨hz, h⟩ := Sat_ifp h
      exact r_zreturn rfl hz (by rw [← Sat_eq h]; exact ⟨rfl, rfl⟩) dX11_readClause_106
    have h := Sat_neg c18_10 h
    by_cases c18_11 : k0_16 = 11
    · have h := Sat_pos c18_11 h
      refine r_tabIn c18_11 89 107 dX11_readClause_18 (by decide) (by decide) (by decide) (by decide) ?_
      refine r_aload_n dX11_readClause_107 1 rfl ?_
      obtain ⟨x108, e108, h⟩ := Sat_bind h
      refine r_cV (t := 12) [] [] (m_X11_readTrade a0_16 μ_16 e108) ck_X11_readTrade lk_X11_294 in_X11_readTrade se_X11_readTrade (kd_of e108) ⟨rfl, by decide, by decide⟩ rfl rfl (Nat.le_of_ble_eq_true rfl) ⟨by decide, by decide⟩ ⟨Nat.zero_le _, Nat.zero_le _⟩ dX11_readClause_108 ?_
      obtain ⟨hz, h⟩ := Sat_ifp h
      exact r_zreturn rfl hz (by rw [← Sat_eq h]; exact ⟨rfl, rfl⟩) dX11_readClause_111
    have h := Sat_neg c18_11 h
    refine r_tabOut 112 dX11_readClause_18 (tab_out12 c18_0 c18_1 c18_2 c18_3 c18_4 c18_5 c18_6 c18_7 c18_8 c18_9 c18_10 c18_11) (by decide) ?_
    refine r_iload_n dX11_readClause_112 0 rfl ?_
    refine r_bipush (v := 6) dX11_readClause_113 (by decide) ?_
    refine r_icmp_eq 136 dX11_readClause_115 (by decide) (fun c115 => ?_) (fun c115 => ?_)
    · have h := Sat_pos c115 h
      exact r_sub [1, 0] rfl (J136 a0_16 k0_16 μ_16 h)
    · have h := Sat_neg c115 h
      refine r_iload_n dX11_readClause_118 0 rfl ?_
      refine r_bipush (v := 7) dX11_readClause_119 (by decide) ?_
      refine r_icmp_eq 136 dX11_readClause_121 (by decide) (fun c121 => ?_) (fun c121 => ?_)
      · have h := Sat_pos c121 h
        exact r_sub [1, 0] rfl (J136 a0_16 k0_16 μ_16 h)
      · have h := Sat_neg c121 h
        refine r_iload_n dX11_readClause_124 0 rfl ?_
        refine r_bipush (v := 8) dX11_readClause_125 (by decide) ?_
        refine r_icmp_eq 136 dX11_readClause_127 (by decide) (fun c127 => ?_) (fun c127 => ?_)
        · have h := Sat_pos c127 h
          exact r_sub [1, 0] rfl (J136 a0_16 k0_16 μ_16 h)
        · have h := Sat_neg c127 h
          refine r_aload_n dX11_readClause_130 1 rfl ?_
          refine r_iconst (v := 1) dX11_readClause_131 (by decide) ?_
          obtain ⟨x132, e132, h⟩ := Sat_bind h
          refine r_cV (t := 12) [.int (1 : Int32)] [] (m_X11_fails a0_16 (1 : Int32) μ_16 e132) ck_X11_fails lk_X11_214 in_X11_fails se_X11_fails (kd_of e132) ⟨rfl, by decide, by decide⟩ rfl rfl (Nat.le_of_ble_eq_true rfl) ⟨by decide, by decide⟩ ⟨Nat.zero_le _, Nat.zero_le _⟩ dX11_readClause_132 ?_
          obtain ⟨hz, h⟩ := Sat_ifp h
          exact r_zreturn rfl hz (by rw [← Sat_eq h]; exact ⟨rfl, rfl⟩) dX11_readClause_135
  refine r_aload_n dX11_readClause_0 0 rfl ?_
  obtain ⟨x1, e1, h⟩ := Sat_bind h
  refine r_getI fk_X11_186 rfl e1 dX11_readClause_1 ?_
  refine r_iconst (v := 1) dX11_readClause_4 (by decide) ?_
  refine r_icmp_ne 15 dX11_readClause_5 (by decide) (fun c5 => ?_) (fun c5 => ?_)
  · have h := Sat_neg c5 h
    refine r_iconst (v := -1) dX11_readClause_15 (by decide) ?_
    exact r_sub [0] rfl (J16 a0 (-1 : Int32) μ h)
  · have h := Sat_pos c5 h
    refine r_aload_n dX11_readClause_8 0 rfl ?_
    obtain ⟨x9, e9, h⟩ := Sat_bind h
    refine r_getI fk_X11_183 rfl e9 dX11_readClause_9 ?_
    refine r_goto 16 dX11_readClause_12 (by decide) ?_
    exact r_sub [0] rfl (J16 a0 x9 μ h)
theorem dX11_right_0 : decode cX11_right 0 = .ok (.iload_n 1, 1) := by decide +kernel
theorem dX11_right_1 : decode cX11_right 1 = .ok (.aload_n 0, 1) := by decide +kernel
theorem dX11_right_2 : decode cX11_right 2 = .ok (.getfield 250, 3) := by decide +kernel
theorem dX11_right_5 : decode cX11_right 5 = .ok (.sipush 999, 3) := by decide +kernel
theorem dX11_right_8 : decode cX11_right 8 = .ok (.invokestatic 217, 3) := by decide +kernel
theorem dX11_right_11 : decode cX11_right 11 = .ok (.ifCond .eq 26, 3) := by decide +kernel
theorem dX11_right_14 : decode cX11_right 14 = .ok (.iload_n 2, 1) := by decide +kernel
theorem dX11_right_15 : decode cX11_right 15 = .ok (.iconst 0, 1) := by decide +kernel
theorem dX11_right_16 : decode cX11_right 16 = .ok (.aload_n 0, 1) := by decide +kernel
theorem dX11_right_17 : decode cX11_right 17 = .ok (.getfield 244, 3) := by decide +kernel
theorem dX11_right_20 : decode cX11_right 20 = .ok (.iconst 1, 1) := by decide +kernel
theorem dX11_right_21 : decode cX11_right 21 = .ok (.isub, 1) := by decide +kernel
theorem dX11_right_22 : decode cX11_right 22 = .ok (.invokestatic 217, 3) := by decide +kernel
theorem dX11_right_25 : decode cX11_right 25 = .ok (.ifCond .eq 12, 3) := by decide +kernel
theorem dX11_right_28 : decode cX11_right 28 = .ok (.iload_n 3, 1) := by decide +kernel
theorem dX11_right_29 : decode cX11_right 29 = .ok (.iconst 0, 1) := by decide +kernel
theorem dX11_right_30 : decode cX11_right 30 = .ok (.iconst 1, 1) := by decide +kernel
theorem dX11_right_31 : decode cX11_right 31 = .ok (.invokestatic 217, 3) := by decide +kernel
theorem dX11_right_34 : decode cX11_right 34 = .ok (.ifCond .ne 6, 3) := by decide +kernel
theorem dX11_right_37 : decode cX11_right 37 = .ok (.bipush (-2), 2) := by decide +kernel
theorem dX11_right_39 : decode cX11_right 39 = .ok (.ireturn, 1) := by decide +kernel
theorem dX11_right_40 : decode cX11_right 40 = .ok (.aload_n 0, 1) := by decide +kernel
theorem dX11_right_41 : decode cX11_right 41 = .ok (.getfield 247, 3) := by decide +kernel
theorem dX11_right_44 : decode cX11_right 44 = .ok (.bipush 20, 2) := by decide +kernel
theorem dX11_right_46 : decode cX11_right 46 = .ok (.if_icmp .ne 6, 3) := by decide +kernel
theorem dX11_right_49 : decode cX11_right 49 = .ok (.bipush (-3), 2) := by decide +kernel
theorem dX11_right_51 : decode cX11_right 51 = .ok (.ireturn, 1) := by decide +kernel
theorem dX11_right_52 : decode cX11_right 52 = .ok (.aload_n 0, 1) := by decide +kernel
theorem dX11_right_53 : decode cX11_right 53 = .ok (.iload_n 1, 1) := by decide +kernel
theorem dX11_right_54 : decode cX11_right 54 = .ok (.putfield 250, 3) := by decide +kernel
theorem dX11_right_57 : decode cX11_right 57 = .ok (.aload_n 0, 1) := by decide +kernel
theorem dX11_right_58 : decode cX11_right 58 = .ok (.getfield 106, 3) := by decide +kernel
theorem dX11_right_61 : decode cX11_right 61 = .ok (.aload_n 0, 1) := by decide +kernel
theorem dX11_right_62 : decode cX11_right 62 = .ok (.getfield 247, 3) := by decide +kernel
theorem dX11_right_65 : decode cX11_right 65 = .ok (.iload_n 1, 1) := by decide +kernel
theorem dX11_right_66 : decode cX11_right 66 = .ok (.iastore, 1) := by decide +kernel
theorem dX11_right_67 : decode cX11_right 67 = .ok (.aload_n 0, 1) := by decide +kernel
theorem dX11_right_68 : decode cX11_right 68 = .ok (.getfield 109, 3) := by decide +kernel
theorem dX11_right_71 : decode cX11_right 71 = .ok (.aload_n 0, 1) := by decide +kernel
theorem dX11_right_72 : decode cX11_right 72 = .ok (.getfield 247, 3) := by decide +kernel
theorem dX11_right_75 : decode cX11_right 75 = .ok (.iload_n 2, 1) := by decide +kernel
theorem dX11_right_76 : decode cX11_right 76 = .ok (.iastore, 1) := by decide +kernel
theorem dX11_right_77 : decode cX11_right 77 = .ok (.aload_n 0, 1) := by decide +kernel
theorem dX11_right_78 : decode cX11_right 78 = .ok (.getfield 112, 3) := by decide +kernel
theorem dX11_right_81 : decode cX11_right 81 = .ok (.aload_n 0, 1) := by decide +kernel
theorem dX11_right_82 : decode cX11_right 82 = .ok (.getfield 247, 3) := by decide +kernel
theorem dX11_right_85 : decode cX11_right 85 = .ok (.iload_n 3, 1) := by decide +kernel
theorem dX11_right_86 : decode cX11_right 86 = .ok (.iastore, 1) := by decide +kernel
theorem dX11_right_87 : decode cX11_right 87 = .ok (.aload_n 0, 1) := by decide +kernel
theorem dX11_right_88 : decode cX11_right 88 = .ok (.dup, 1) := by decide +kernel
theorem dX11_right_89 : decode cX11_right 89 = .ok (.getfield 247, 3) := by decide +kernel
theorem dX11_right_92 : decode cX11_right 92 = .ok (.iconst 1, 1) := by decide +kernel
theorem dX11_right_93 : decode cX11_right 93 = .ok (.iadd, 1) := by decide +kernel
theorem dX11_right_94 : decode cX11_right 94 = .ok (.putfield 247, 3) := by decide +kernel
theorem dX11_right_97 : decode cX11_right 97 = .ok (.iconst 0, 1) := by decide +kernel
theorem dX11_right_98 : decode cX11_right 98 = .ok (.istore 4, 2) := by decide +kernel
theorem dX11_right_100 : decode cX11_right 100 = .ok (.iconst 0, 1) := by decide +kernel
theorem dX11_right_101 : decode cX11_right 101 = .ok (.istore 5, 2) := by decide +kernel
theorem dX11_right_103 : decode cX11_right 103 = .ok (.iload 5, 2) := by decide +kernel
theorem dX11_right_105 : decode cX11_right 105 = .ok (.aload_n 0, 1) := by decide +kernel
theorem dX11_right_106 : decode cX11_right 106 = .ok (.getfield 247, 3) := by decide +kernel
theorem dX11_right_109 : decode cX11_right 109 = .ok (.if_icmp .ge 30, 3) := by decide +kernel
theorem dX11_right_112 : decode cX11_right 112 = .ok (.iload 4, 2) := by decide +kernel
theorem dX11_right_114 : decode cX11_right 114 = .ok (.aload_n 0, 1) := by decide +kernel
theorem dX11_right_115 : decode cX11_right 115 = .ok (.getfield 109, 3) := by decide +kernel
theorem dX11_right_118 : decode cX11_right 118 = .ok (.iload 5, 2) := by decide +kernel
theorem dX11_right_120 : decode cX11_right 120 = .ok (.iaload, 1) := by decide +kernel
theorem dX11_right_121 : decode cX11_right 121 = .ok (.iload_n 2, 1) := by decide +kernel
theorem dX11_right_122 : decode cX11_right 122 = .ok (.if_icmp .ne 7, 3) := by decide +kernel
theorem dX11_right_125 : decode cX11_right 125 = .ok (.iconst 1, 1) := by decide +kernel
theorem dX11_right_126 : decode cX11_right 126 = .ok (.goto 4, 3) := by decide +kernel
theorem dX11_right_129 : decode cX11_right 129 = .ok (.iconst 0, 1) := by decide +kernel
theorem dX11_right_130 : decode cX11_right 130 = .ok (.iadd, 1) := by decide +kernel
theorem dX11_right_131 : decode cX11_right 131 = .ok (.istore 4, 2) := by decide +kernel
theorem dX11_right_133 : decode cX11_right 133 = .ok (.iinc 5 1, 3) := by decide +kernel
theorem dX11_right_136 : decode cX11_right 136 = .ok (.goto (-33), 3) := by decide +kernel
theorem dX11_right_139 : decode cX11_right 139 = .ok (.iload 4, 2) := by decide +kernel
theorem dX11_right_141 : decode cX11_right 141 = .ok (.ireturn, 1) := by decide +kernel
noncomputable def f_X11_right_J130 (a0 : Nat) (l2 : Int32) (l5 : Int32) (k0 : Int32) (k1 : Int32) (μ : Mm) : Option ((Int32 × Int32) ⊕ (Int32)) :=
  (some (k0 + k1)).bind fun v131 => (some (l5 + (1 : Int32))).bind fun v133 => some (.inl (v131, v133))
noncomputable def f_X11_right_L103 (a0 : Nat) (l2 : Int32) (μ : Mm) (s103 : Int32 × Int32) : Option ((Int32 × Int32) ⊕ (Int32)) :=
  (gf_I 12 47 a0 μ).bind fun x106 => if x106 ≤ s103.2 then some (.inr s103.1) else (gf_P 12 55 a0 μ).bind fun x115 => (ga_I x115 s103.2 μ).bind fun x120 => if x120 = l2 then f_X11_right_J130 a0 l2 s103.2 s103.1 (1 : Int32) μ else f_X11_right_J130 a0 l2 s103.2 s103.1 (0 : Int32) μ
noncomputable def f_X11_right (a0 : Nat) (l1 : Int32) (l2 : Int32) (l3 : Int32) (μ : Mm) : Option (Int32 × Mm) :=
  if (mm_K μ a0).1 = 12 then (gf_I 12 48 a0 μ).bind fun x2 => (f_X11_in l1 x2 (999 : Int32) μ).bind fun x8 => if x8 = 0 then some ((-2 : Int32), μ) else (gf_I 12 46 a0 μ).bind fun x17 => (f_X11_in l2 (0 : Int32) (x17 - (1 : Int32)) μ).bind fun x22 => if x22 = 0 then some ((-2 : Int32), μ) else (f_X11_in l3 (0 : Int32) (1 : Int32) μ).bind fun x31 => if x31 = 0 then some ((-2 : Int32), μ) else (gf_I 12 47 a0 μ).bind fun x41 => if x41 = (20 : Int32) then some ((-3 : Int32), μ) else (pf_I 12 48 a0 l1 μ).bind fun μ54 => (gf_P 12 54 a0 μ54).bind fun x58 => (gf_I 12 47 a0 μ54).bind fun x62 => (pa_I x58 x62 l1 μ54).bind fun μ66 => (gf_P 12 55 a0 μ66).bind fun x68 => (gf_I 12 47 a0 μ66).bind fun x72 => (pa_I x68 x72 l2 μ66).bind fun μ76 => (gf_P 12 56 a0 μ76).bind fun x78 => (gf_I 12 47 a0 μ76).bind fun x82 => (pa_I x78 x82 l3 μ76).bind fun μ86 => (gf_I 12 47 a0 μ86).bind fun x89 => (pf_I 12 47 a0 (x89 + (1 : Int32)) μ86).bind fun μ94 => (whl (f_X11_right_L103 a0 l2 μ94) ((0 : Int32), (0 : Int32))).bind (fun b103 => some (b103, μ94)) else none
abbrev Rn_X11_right (G : Gv) (Q : Option Value → Mm → Prop) (pc : Nat) (lv : List (Nat × Value)) (st : List Value) (μ : Mm) : Prop := Rn G RX11 cX11_right 6 (some .int) "right" (rmd 1 0 0) (Zm G 0 0 Q) 0 0 pc lv st μ
set_option maxRecDepth 100000 in
set_option maxHeartbeats 4000000 in
theorem m_X11_right {G : Gv} (a0 : Nat) (l1 : Int32) (l2 : Int32) (l3 : Int32) (μ : Mm) {r : (Int32 × Mm)} (hx : f_X11_right a0 l1 l2 l3 μ = some r) : Mt G yX11_right cX11_right 6 (some .int) 1 0 0 [.ref a0, .int l1, .int l2, .int l3] μ (fun v μ' => v = some (.int r.1) ∧ μ' = r.2) := by
  refine Mt.of (by decide) (Nat.le_of_ble_eq_true rfl) ?_
  show Rn_X11_right G (fun v μ' => v = some (.int r.1) ∧ μ' = r.2) 0 [(0, .ref a0), (1, .int l1), (2, .int l2), (3, .int l3)] [] μ
  obtain ⟨_, h⟩ := Sat_ifp (show Sat (f_X11_right a0 l1 l2 l3 μ) (fun x => x = r) from ⟨_, hx, rfl⟩)
  refine r_iload_n dX11_right_0 1 rfl ?_
  refine r_aload_n dX11_right_1 0 rfl ?_
  obtain ⟨x2, e2, h⟩ := Sat_bind h
  refine r_getI fk_X11_250 rfl e2 dX11_right_2 ?_
  refine r_sipush (v := 999) dX11_right_5 (by decide) ?_
  obtain ⟨x8, e8, h⟩ := Sat_bind h
  refine r_cS [.int l1, .int x2, .int (999 : Int32)] [] (m_X11_in l1 x2 (999 : Int32) μ e8) ck_X11_in lk_X11_217 st_X11_in rfl rfl (Nat.le_of_ble_eq_true rfl) ⟨by decide, by decide⟩ ⟨Nat.zero_le _, Nat.zero_le _⟩ dX11_right_8 ?_
  refine r_if_eq 37 dX11_right_11 (by decide) (fun c11 => ?_) (fun c11 => ?_)
  · have h := Sat_pos c11 h
    refine r_bipush (v := -2) dX11_right_37 (by decide) ?_
    exact r_ireturn rfl (by rw [← Sat_eq h]; exact ⟨rfl, rfl⟩) dX11_right_39
  · have h := Sat_neg c11 h
    refine r_iload_n dX11_right_14 2 rfl ?_
    refine r_iconst (v := 0) dX11_right_15 (by decide) ?_
    refine r_aload_n dX11_right_16 0 rfl ?_
    obtain ⟨x17, e17, h⟩ := Sat_bind h
    refine r_getI fk_X11_244 rfl e17 dX11_right_17 ?_
    refine r_iconst (v := 1) dX11_right_20 (by decide) ?_
    refine r_isub dX11_right_21 ?_
    obtain ⟨x22, e22, h⟩ := Sat_bind h
    refine r_cS [.int l2, .int (0 : Int32), .int (x17 - (1 : Int32))] [] (m_X11_in l2 (0 : Int32) (x17 - (1 : Int32)) μ e22) ck_X11_in lk_X11_217 st_X11_in rfl rfl (Nat.le_of_ble_eq_true rfl) ⟨by decide, by decide⟩ ⟨Nat.zero_le _, Nat.zero_le _⟩ dX11_right_22 ?_
    refine r_if_eq 37 dX11_right_25 (by decide) (fun c25 => ?_) (fun c25 => ?_)
    · have h := Sat_pos c25 h
      refine r_bipush (v := -2) dX11_right_37 (by decide) ?_
      exact r_ireturn rfl (by rw [← Sat_eq h]; exact ⟨rfl, rfl⟩) dX11_right_39
    · have h := Sat_neg c25 h
      refine r_iload_n dX11_right_28 3 rfl ?_
      refine r_iconst (v := 0) dX11_right_29 (by decide) ?_
      refine r_iconst (v := 1) dX11_right_30 (by decide) ?_
      obtain ⟨x31, e31, h⟩ := Sat_bind h
      refine r_cS [.int l3, .int (0 : Int32), .int (1 : Int32)] [] (m_X11_in l3 (0 : Int32) (1 : Int32) μ e31) ck_X11_in lk_X11_217 st_X11_in rfl rfl (Nat.le_of_ble_eq_true rfl) ⟨by decide, by decide⟩ ⟨Nat.zero_le _, Nat.zero_le _⟩ dX11_right_31 ?_
      refine r_if_ne 40 dX11_right_34 (by decide) (fun c34 => ?_) (fun c34 => ?_)
      · have h := Sat_neg c34 h
        refine r_aload_n dX11_right_40 0 rfl ?_
        obtain ⟨x41, e41, h⟩ := Sat_bind h
        refine r_getI fk_X11_247 rfl e41 dX11_right_41 ?_
        refine r_bipush (v := 20) dX11_right_44 (by decide) ?_
        refine r_icmp_ne 52 dX11_right_46 (by decide) (fun c46 => ?_) (fun c46 => ?_)
        · have h := Sat_neg c46 h
          refine r_aload_n dX11_right_52 0 rfl ?_
          refine r_iload_n dX11_right_53 1 rfl ?_
          obtain ⟨μ54, e54, h⟩ := Sat_bind h
          refine r_putI fk_X11_250 rfl rfl e54 dX11_right_54 ?_
          refine r_aload_n dX11_right_57 0 rfl ?_
          obtain ⟨x58, e58, h⟩ := Sat_bind h
          refine r_getP fk_X11_106 rfl e58 dX11_right_58 ?_
          refine r_aload_n dX11_right_61 0 rfl ?_
          obtain ⟨x62, e62, h⟩ := Sat_bind h
          refine r_getI fk_X11_247 rfl e62 dX11_right_62 ?_
          refine r_iload_n dX11_right_65 1 rfl ?_
          obtain ⟨μ66, e66, h⟩ := Sat_bind h
          refine r_iastore e66 dX11_right_66 ?_
          refine r_aload_n dX11_right_67 0 rfl ?_
          obtain ⟨x68, e68, h⟩ := Sat_bind h
          refine r_getP fk_X11_109 rfl e68 dX11_right_68 ?_
          refine r_aload_n dX11_right_71 0 rfl ?_
          obtain ⟨x72, e72, h⟩ := Sat_bind h
          refine r_getI fk_X11_247 rfl e72 dX11_right_72 ?_
          refine r_iload_n dX11_right_75 2 rfl ?_
          obtain ⟨μ76, e76, h⟩ := Sat_bind h
          refine r_iastore e76 dX11_right_76 ?_
          refine r_aload_n dX11_right_77 0 rfl ?_
          obtain ⟨x78, e78, h⟩ := Sat_bind h
          refine r_getP fk_X11_112 rfl e78 dX11_right_78 ?_
          refine r_aload_n dX11_right_81 0 rfl ?_
          obtain ⟨x82, e82, h⟩ := Sat_bind h
          refine r_getI fk_X11_247 rfl e82 dX11_right_82 ?_
          refine r_iload_n dX11_right_85 3 rfl ?_
          obtain ⟨μ86, e86, h⟩ := Sat_bind h
          refine r_iastore e86 dX11_right_86 ?_
          refine r_aload_n dX11_right_87 0 rfl ?_
          refine r_dup dX11_right_88 rfl ?_
          obtain ⟨x89, e89, h⟩ := Sat_bind h
          refine r_getI fk_X11_247 rfl e89 dX11_right_89 ?_
          refine r_iconst (v := 1) dX11_right_92 (by decide) ?_
          refine r_iadd dX11_right_93 ?_
          obtain ⟨μ94, e94, h⟩ := Sat_bind h
          refine r_putI fk_X11_247 rfl rfl e94 dX11_right_94 ?_
          refine r_iconst (v := 0) dX11_right_97 (by decide) ?_
          refine r_istore (lv' := [(4, .int (0 : Int32)), (0, .ref a0), (1, .int l1), (2, .int l2), (3, .int l3)]) dX11_right_98 (by decide) rfl ?_
          refine r_iconst (v := 0) dX11_right_100 (by decide) ?_
          refine r_istore (lv' := [(5, .int (0 : Int32)), (4, .int (0 : Int32)), (0, .ref a0), (1, .int l1), (2, .int l2), (3, .int l3)]) dX11_right_101 (by decide) rfl ?_
          refine r_sub (lv' := [(0, .ref a0), (2, .int l2), (4, .int (0 : Int32)), (5, .int (0 : Int32))]) [2, 4, 1, 0] rfl ?_
          refine whl_K (s0 := (((0 : Int32), (0 : Int32)) : Int32 × Int32)) (RR := fun (s103 : Int32 × Int32) => Rn_X11_right G (fun v μ' => v = some (.int r.1) ∧ μ' = r.2) 103 [(0, .ref a0), (2, .int l2), (4, .int s103.1), (5, .int s103.2)] [] μ94) ?_ (Sat_bindK h)
          intro s103 K103 hI103 hX103 h
          have J130 : ∀ (l5_130 : Int32) (k0_130 : Int32) (k1_130 : Int32), Sat (f_X11_right_J130 a0 l2 l5_130 k0_130 k1_130 μ94) K103 → Rn_X11_right G (fun v μ' => v = some (.int r.1) ∧ μ' = r.2) 130 [(0, .ref a0), (2, .int l2), (5, .int l5_130)] [.int k1_130, .int k0_130] μ94 := by
            intro l5_130 k0_130 k1_130 h
            refine r_iadd dX11_right_130 ?_
            obtain ⟨v131, e131, h⟩ := Sat_bind h
            refine r_topi (Option.some.inj e131) ?_
            refine r_istore (lv' := [(4, .int v131), (0, .ref a0), (2, .int l2), (5, .int l5_130)]) dX11_right_131 (by decide) rfl ?_
            obtain ⟨v133, e133, h⟩ := Sat_bind h
            refine r_iinc (j := 3) (v := v133) (lv' := [(5, .int v133), (4, .int v131), (0, .ref a0), (2, .int l2)]) dX11_right_133 rfl (iinc_v e133 (by decide)) (by decide) rfl ?_
            refine r_goto 103 dX11_right_136 (by decide) ?_
            exact r_sub [2, 3, 1, 0] rfl (hI103 _ (Sat_some h))
          refine r_iload dX11_right_103 3 rfl ?_
          refine r_aload_n dX11_right_105 0 rfl ?_
          obtain ⟨x106, e106, h⟩ := Sat_bind h
          refine r_getI fk_X11_247 rfl e106 dX11_right_106 ?_
          refine r_icmp_ge 139 dX11_right_109 (by decide) (fun c109 => ?_) (fun c109 => ?_)
          · have h := Sat_pos c109 h
            have h := hX103 _ (Sat_some h)
            refine r_iload dX11_right_139 2 rfl ?_
            exact r_ireturn rfl (by rw [← Sat_eq h]; exact ⟨rfl, rfl⟩) dX11_right_141
          · have h := Sat_neg c109 h
            refine r_iload dX11_right_112 2 rfl ?_
            refine r_aload_n dX11_right_114 0 rfl ?_
            obtain ⟨x115, e115, h⟩ := Sat_bind h
            refine r_getP fk_X11_109 rfl e115 dX11_right_115 ?_
            refine r_iload dX11_right_118 3 rfl ?_
            obtain ⟨x120, e120, h⟩ := Sat_bind h
            refine r_iaload e120 dX11_right_120 ?_
            refine r_iload_n dX11_right_121 1 rfl ?_
            refine r_icmp_ne 129 dX11_right_122 (by decide) (fun c122 => ?_) (fun c122 => ?_)
            · have h := Sat_neg c122 h
              refine r_iconst (v := 0) dX11_right_129 (by decide) ?_
              exact r_sub [0, 1, 3] rfl (J130 s103.2 s103.1 (0 : Int32) h)
            · have h := Sat_pos c122 h
              refine r_iconst (v := 1) dX11_right_125 (by decide) ?_
              refine r_goto 130 dX11_right_126 (by decide) ?_
              exact r_sub [0, 1, 3] rfl (J130 s103.2 s103.1 (1 : Int32) h)
        · have h := Sat_pos c46 h
          refine r_bipush (v := -3) dX11_right_49 (by decide) ?_
          exact r_ireturn rfl (by rw [← Sat_eq h]; exact ⟨rfl, rfl⟩) dX11_right_51
      · have h := Sat_pos c34 h
        refine r_bipush (v := -2) dX11_right_37 (by decide) ?_
        exact r_ireturn rfl (by rw [← Sat_eq h]; exact ⟨rfl, rfl⟩) dX11_right_39
theorem dX11_ringOf_0 : decode cX11_ringOf 0 = .ok (.iconst 0, 1) := by decide +kernel
theorem dX11_ringOf_1 : decode cX11_ringOf 1 = .ok (.istore_n 2, 1) := by decide +kernel
theorem dX11_ringOf_2 : decode cX11_ringOf 2 = .ok (.iload_n 1, 1) := by decide +kernel
theorem dX11_ringOf_3 : decode cX11_ringOf 3 = .ok (.istore_n 3, 1) := by decide +kernel
theorem dX11_ringOf_4 : decode cX11_ringOf 4 = .ok (.aload_n 0, 1) := by decide +kernel
theorem dX11_ringOf_5 : decode cX11_ringOf 5 = .ok (.getfield 73, 3) := by decide +kernel
theorem dX11_ringOf_8 : decode cX11_ringOf 8 = .ok (.aload_n 0, 1) := by decide +kernel
theorem dX11_ringOf_9 : decode cX11_ringOf 9 = .ok (.getfield 241, 3) := by decide +kernel
theorem dX11_ringOf_12 : decode cX11_ringOf 12 = .ok (.laload, 1) := by decide +kernel
theorem dX11_ringOf_13 : decode cX11_ringOf 13 = .ok (.iload_n 3, 1) := by decide +kernel
theorem dX11_ringOf_14 : decode cX11_ringOf 14 = .ok (.invokestatic 320, 3) := by decide +kernel
theorem dX11_ringOf_17 : decode cX11_ringOf 17 = .ok (.istore_n 3, 1) := by decide +kernel
theorem dX11_ringOf_18 : decode cX11_ringOf 18 = .ok (.iinc 2 1, 3) := by decide +kernel
theorem dX11_ringOf_21 : decode cX11_ringOf 21 = .ok (.iload_n 3, 1) := by decide +kernel
theorem dX11_ringOf_22 : decode cX11_ringOf 22 = .ok (.iconst (-1), 1) := by decide +kernel
theorem dX11_ringOf_23 : decode cX11_ringOf 23 = .ok (.if_icmp .eq 8, 3) := by decide +kernel
theorem dX11_ringOf_26 : decode cX11_ringOf 26 = .ok (.iload_n 3, 1) := by decide +kernel
theorem dX11_ringOf_27 : decode cX11_ringOf 27 = .ok (.iload_n 1, 1) := by decide +kernel
theorem dX11_ringOf_28 : decode cX11_ringOf 28 = .ok (.if_icmp .ne (-24), 3) := by decide +kernel
theorem dX11_ringOf_31 : decode cX11_ringOf 31 = .ok (.iload_n 3, 1) := by decide +kernel
theorem dX11_ringOf_32 : decode cX11_ringOf 32 = .ok (.iconst (-1), 1) := by decide +kernel
theorem dX11_ringOf_33 : decode cX11_ringOf 33 = .ok (.if_icmp .ne 7, 3) := by decide +kernel
theorem dX11_ringOf_36 : decode cX11_ringOf 36 = .ok (.iconst 0, 1) := by decide +kernel
theorem dX11_ringOf_37 : decode cX11_ringOf 37 = .ok (.goto 4, 3) := by decide +kernel
theorem dX11_ringOf_40 : decode cX11_ringOf 40 = .ok (.iload_n 2, 1) := by decide +kernel
theorem dX11_ringOf_41 : decode cX11_ringOf 41 = .ok (.ireturn, 1) := by decide +kernel
noncomputable def f_X11_ringOf_J31 (l2 : Int32) (l3 : Int32) (μ : Mm) : Option Int32 :=
  if l3 = (-1 : Int32) then some (0 : Int32) else some l2
noncomputable def f_X11_ringOf_L4 (a0 : Nat) (l1 : Int32) (μ : Mm) (s4 : Int32 × Int32) : Option ((Int32 × Int32) ⊕ (Int32 × Int32)) :=
  (gf_P 12 34 a0 μ).bind fun x5 => (gf_I 12 33 a0 μ).bind fun x9 => (ga_L x5 x9 μ).bind fun x12 => (f_X11_dreamtBy x12 s4.2 μ).bind fun x14 => (some (s4.1 + (1 : Int32))).bind fun v18 => if x14 = (-1 : Int32) then some (.inr (v18, x14)) else if x14 = l1 then some (.inr (v18, x14)) else some (.inl (v18, x14))
noncomputable def f_X11_ringOf (a0 : Nat) (l1 : Int32) (μ : Mm) : Option Int32 :=
  if (mm_K μ a0).1 = 12 then (whl (f_X11_ringOf_L4 a0 l1 μ) ((0 : Int32), l1)).bind (fun b4 => f_X11_ringOf_J31 b4.1 b4.2 μ) else none
abbrev Rn_X11_ringOf (G : Gv) (Q : Option Value → Mm → Prop) (pc : Nat) (lv : List (Nat × Value)) (st : List Value) (μ : Mm) : Prop := Rn G RX11 cX11_ringOf 4 (some .int) "ringOf" (rmd 1 0 0) (Zm G 0 0 Q) 0 0 pc lv st μ
set_option maxRecDepth 100000 in
set_option maxHeartbeats 4000000 in
theorem m_X11_ringOf {G : Gv} (a0 : Nat) (l1 : Int32) (μ : Mm) {r : Int32} (hx : f_X11_ringOf a0 l1 μ = some r) : Mt G yX11_ringOf cX11_ringOf 4 (some .int) 1 0 0 [.ref a0, .int l1] μ (fun v μ' => v = some (.int r) ∧ μ' = μ) := by
  refine Mt.of (by decide) (Nat.le_of_ble_eq_true rfl) ?_
  show Rn_X11_ringOf G (fun v μ' => v = some (.int r) ∧ μ' = μ) 0 [(0, .ref a0), (1, .int l1)] [] μ
  obtain ⟨_, h⟩ := Sat_ifp (show Sat (f_X11_ringOf a0 l1 μ) (fun x => x = r) from ⟨_, hx, rfl⟩)
  have J31 : ∀ (l2_31 : Int32) (l3_31 : Int32), Sat (f_X11_ringOf_J31 l2_31 l3_31 μ) (fun x => x = r) → Rn_X11_ringOf G (fun v μ' => v = some (.int r) ∧ μ' = μ) 31 [(2, .int l2_31), (3, .int l3_31)] [] μ := by
    intro l2_31 l3_31 h
    refine r_iload_n dX11_ringOf_31 1 rfl ?_
    refine r_iconst (v := -1) dX11_ringOf_32 (by decide) ?_
    refine r_icmp_ne 40 dX11_ringOf_33 (by decide) (fun c33 => ?_) (fun c33 => ?_)
    · have h := Sat_neg c33 h
      refine r_iload_n dX11_ringOf_40 0 rfl ?_
      exact r_ireturn rfl (by rw [← Sat_eq h]; exact ⟨rfl, rfl⟩) dX11_ringOf_41
    · have h := Sat_pos c33 h
      refine r_iconst (v := 0) dX11_ringOf_36 (by decide) ?_
      refine r_goto 41 dX11_ringOf_37 (by decide) ?_
      exact r_ireturn rfl (by rw [← Sat_eq h]; exact ⟨rfl, rfl⟩) dX11_ringOf_41
  refine r_iconst (v := 0) dX11_ringOf_0 (by decide) ?_
  refine r_istore_n (lv' := [(2, .int (0 : Int32)), (0, .ref a0), (1, .int l1)]) dX11_ringOf_1 rfl (by decide) rfl ?_
  refine r_iload_n dX11_ringOf_2 2 rfl ?_
  refine r_istore_n (lv' := [(3, .int l1), (2, .int (0 : Int32)), (0, .ref a0), (1, .int l1)]) dX11_ringOf_3 rfl (by decide) rfl ?_
  refine r_sub (lv' := [(0, .ref a0), (1, .int l1), (2, .int (0 : Int32)), (3, .int l1)]) [2, 3, 1, 0] rfl ?_
  refine whl_K (s0 := (((0 : Int32), l1) : Int32 × Int32)) (RR := fun (s4 : Int32 × Int32) => Rn_X11_ringOf G (fun v μ' => v = some (.int r) ∧ μ' = μ) 4 [(0, .ref a0), (1, .int l1), (2, .int s4.1), (3, .int s4.2)] [] μ) ?_ (Sat_bindK h)
  intro s4 K4 hI4 hX4 h
  refine r_aload_n dX11_ringOf_4 0 rfl ?_
  obtain ⟨x5, e5, h⟩ := Sat_bind h
  refine r_getP fk_X11_73 rfl e5 dX11_ringOf_5 ?_
  refine r_aload_n dX11_ringOf_8 0 rfl ?_
  obtain ⟨x9, e9, h⟩ := Sat_bind h
  refine r_getI fk_X11_241 rfl e9 dX11_ringOf_9 ?_
  obtain ⟨x12, e12, h⟩ := Sat_bind h
  refine r_laload e12 dX11_ringOf_12 ?_
  refine r_iload_n dX11_ringOf_13 3 rfl ?_
  obtain ⟨x14, e14, h⟩ := Sat_bind h
  refine r_cS [.long x12, .int s4.2] [] (m_X11_dreamtBy x12 s4.2 μ e14) ck_X11_dreamtBy lk_X11_320 st_X11_dreamtBy rfl rfl (Nat.le_of_ble_eq_true rfl) ⟨by decide, by decide⟩ ⟨Nat.zero_le _, Nat.zero_le _⟩ dX11_ringOf_14 ?_
  refine r_istore_n (lv' := [(3, .int x14), (0, .ref a0), (1, .int l1), (2, .int s4.1)]) dX11_ringOf_17 rfl (by decide) rfl ?_
  obtain ⟨v18, e18, h⟩ := Sat_bind h
  refine r_iinc (j := 3) (v := v18) (lv' := [(2, .int v18), (3, .int x14), (0, .ref a0), (1, .int l1)]) dX11_ringOf_18 rfl (iinc_v e18 (by decide)) (by decide) rfl ?_
  refine r_iload_n dX11_ringOf_21 1 rfl ?_
  refine r_iconst (v := -1) dX11_ringOf_22 (by decide) ?_
  refine r_icmp_eq 31 dX11_ringOf_23 (by decide) (fun c23 => ?_) (fun c23 => ?_)
  · have h := Sat_pos c23 h
    have h := hX4 _ (Sat_some h)
    exact r_sub [0, 1] rfl (J31 v18 x14 h)
  · have h := Sat_neg c23 h
    refine r_iload_n dX11_ringOf_26 1 rfl ?_
    refine r_iload_n dX11_ringOf_27 3 rfl ?_
    refine r_icmp_ne 4 dX11_ringOf_28 (by decide) (fun c28 => ?_) (fun c28 => ?_)
    · have h := Sat_neg c28 h
      exact r_sub [2, 3, 0, 1] rfl (hI4 _ (Sat_some h))
    · have h := Sat_pos c28 h
      have h := hX4 _ (Sat_some h)
      exact r_sub [0, 1] rfl (J31 v18 x14 h)
theorem dX11_ring_0 : decode cX11_ring 0 = .ok (.iload_n 1, 1) := by decide +kernel
theorem dX11_ring_1 : decode cX11_ring 1 = .ok (.iconst (-1), 1) := by decide +kernel
theorem dX11_ring_2 : decode cX11_ring 2 = .ok (.if_icmp .eq 22, 3) := by decide +kernel
theorem dX11_ring_5 : decode cX11_ring 5 = .ok (.aload_n 0, 1) := by decide +kernel
theorem dX11_ring_6 : decode cX11_ring 6 = .ok (.iload_n 1, 1) := by decide +kernel
theorem dX11_ring_7 : decode cX11_ring 7 = .ok (.invokevirtual 309, 3) := by decide +kernel
theorem dX11_ring_10 : decode cX11_ring 10 = .ok (.ifCond .eq 11, 3) := by decide +kernel
theorem dX11_ring_13 : decode cX11_ring 13 = .ok (.aload_n 0, 1) := by decide +kernel
theorem dX11_ring_14 : decode cX11_ring 14 = .ok (.iload_n 1, 1) := by decide +kernel
theorem dX11_ring_15 : decode cX11_ring 15 = .ok (.invokevirtual 426, 3) := by decide +kernel
theorem dX11_ring_18 : decode cX11_ring 18 = .ok (.goto 5, 3) := by decide +kernel
theorem dX11_ring_21 : decode cX11_ring 21 = .ok (.bipush (-2), 2) := by decide +kernel
theorem dX11_ring_23 : decode cX11_ring 23 = .ok (.ireturn, 1) := by decide +kernel
theorem dX11_ring_24 : decode cX11_ring 24 = .ok (.iconst 0, 1) := by decide +kernel
theorem dX11_ring_25 : decode cX11_ring 25 = .ok (.istore_n 2, 1) := by decide +kernel
theorem dX11_ring_26 : decode cX11_ring 26 = .ok (.iconst 0, 1) := by decide +kernel
theorem dX11_ring_27 : decode cX11_ring 27 = .ok (.istore_n 3, 1) := by decide +kernel
theorem dX11_ring_28 : decode cX11_ring 28 = .ok (.iconst 0, 1) := by decide +kernel
theorem dX11_ring_29 : decode cX11_ring 29 = .ok (.istore 4, 2) := by decide +kernel
theorem dX11_ring_31 : decode cX11_ring 31 = .ok (.iload 4, 2) := by decide +kernel
theorem dX11_ring_33 : decode cX11_ring 33 = .ok (.aload_n 0, 1) := by decide +kernel
theorem dX11_ring_34 : decode cX11_ring 34 = .ok (.getfield 17, 3) := by decide +kernel
theorem dX11_ring_37 : decode cX11_ring 37 = .ok (.iconst 0, 1) := by decide +kernel
theorem dX11_ring_38 : decode cX11_ring 38 = .ok (.iaload, 1) := by decide +kernel
theorem dX11_ring_39 : decode cX11_ring 39 = .ok (.if_icmp .ge 73, 3) := by decide +kernel
theorem dX11_ring_42 : decode cX11_ring 42 = .ok (.aload_n 0, 1) := by decide +kernel
theorem dX11_ring_43 : decode cX11_ring 43 = .ok (.iload 4, 2) := by decide +kernel
theorem dX11_ring_45 : decode cX11_ring 45 = .ok (.invokevirtual 312, 3) := by decide +kernel
theorem dX11_ring_48 : decode cX11_ring 48 = .ok (.ifCond .ne 58, 3) := by decide +kernel
theorem dX11_ring_51 : decode cX11_ring 51 = .ok (.iload_n 3, 1) := by decide +kernel
theorem dX11_ring_52 : decode cX11_ring 52 = .ok (.iload 4, 2) := by decide +kernel
theorem dX11_ring_54 : decode cX11_ring 54 = .ok (.ishr, 1) := by decide +kernel
theorem dX11_ring_55 : decode cX11_ring 55 = .ok (.iconst 1, 1) := by decide +kernel
theorem dX11_ring_56 : decode cX11_ring 56 = .ok (.iand, 1) := by decide +kernel
theorem dX11_ring_57 : decode cX11_ring 57 = .ok (.iconst 1, 1) := by decide +kernel
theorem dX11_ring_58 : decode cX11_ring 58 = .ok (.if_icmp .ne 6, 3) := by decide +kernel
theorem dX11_ring_61 : decode cX11_ring 61 = .ok (.goto 45, 3) := by decide +kernel
theorem dX11_ring_64 : decode cX11_ring 64 = .ok (.iinc 2 1, 3) := by decide +kernel
theorem dX11_ring_67 : decode cX11_ring 67 = .ok (.iload 4, 2) := by decide +kernel
theorem dX11_ring_69 : decode cX11_ring 69 = .ok (.istore 5, 2) := by decide +kernel
theorem dX11_ring_71 : decode cX11_ring 71 = .ok (.iload_n 3, 1) := by decide +kernel
theorem dX11_ring_72 : decode cX11_ring 72 = .ok (.iload 5, 2) := by decide +kernel
theorem dX11_ring_74 : decode cX11_ring 74 = .ok (.ishr, 1) := by decide +kernel
theorem dX11_ring_75 : decode cX11_ring 75 = .ok (.iconst 1, 1) := by decide +kernel
theorem dX11_ring_76 : decode cX11_ring 76 = .ok (.iand, 1) := by decide +kernel
theorem dX11_ring_77 : decode cX11_ring 77 = .ok (.ifCond .ne 29, 3) := by decide +kernel
theorem dX11_ring_80 : decode cX11_ring 80 = .ok (.iload_n 3, 1) := by decide +kernel
theorem dX11_ring_81 : decode cX11_ring 81 = .ok (.iconst 1, 1) := by decide +kernel
theorem dX11_ring_82 : decode cX11_ring 82 = .ok (.iload 5, 2) := by decide +kernel
theorem dX11_ring_84 : decode cX11_ring 84 = .ok (.ishl, 1) := by decide +kernel
theorem dX11_ring_85 : decode cX11_ring 85 = .ok (.ior, 1) := by decide +kernel
theorem dX11_ring_86 : decode cX11_ring 86 = .ok (.istore_n 3, 1) := by decide +kernel
theorem dX11_ring_87 : decode cX11_ring 87 = .ok (.aload_n 0, 1) := by decide +kernel
theorem dX11_ring_88 : decode cX11_ring 88 = .ok (.getfield 73, 3) := by decide +kernel
theorem dX11_ring_91 : decode cX11_ring 91 = .ok (.aload_n 0, 1) := by decide +kernel
theorem dX11_ring_92 : decode cX11_ring 92 = .ok (.getfield 241, 3) := by decide +kernel
theorem dX11_ring_95 : decode cX11_ring 95 = .ok (.laload, 1) := by decide +kernel
theorem dX11_ring_96 : decode cX11_ring 96 = .ok (.iload 5, 2) := by decide +kernel
theorem dX11_ring_98 : decode cX11_ring 98 = .ok (.invokestatic 320, 3) := by decide +kernel
theorem dX11_ring_101 : decode cX11_ring 101 = .ok (.istore 5, 2) := by decide +kernel
theorem dX11_ring_103 : decode cX11_ring 103 = .ok (.goto (-32), 3) := by decide +kernel
theorem dX11_ring_106 : decode cX11_ring 106 = .ok (.iinc 4 1, 3) := by decide +kernel
theorem dX11_ring_109 : decode cX11_ring 109 = .ok (.goto (-78), 3) := by decide +kernel
theorem dX11_ring_112 : decode cX11_ring 112 = .ok (.iload_n 2, 1) := by decide +kernel
theorem dX11_ring_113 : decode cX11_ring 113 = .ok (.ireturn, 1) := by decide +kernel
noncomputable def f_X11_ring_J106 (a0 : Nat) (l2 : Int32) (l3 : Int32) (l4 : Int32) (μ : Mm) : Option ((Int32 × Int32 × Int32) ⊕ (Int32)) :=
  (some (l4 + (1 : Int32))).bind fun v106 => some (.inl (l2, l3, v106))
noncomputable def f_X11_ring_L71 (a0 : Nat) (l2 : Int32) (l4 : Int32) (μ : Mm) (s71 : Int32 × Int32) : Option ((Int32 × Int32) ⊕ (Int32)) :=
  if ((s71.1 >>> (s71.2 &&& 31)) &&& (1 : Int32)) = 0 then (some (s71.1 ||| ((1 : Int32) <<< (s71.2 &&& 31)))).bind fun v86 => (gf_P 12 34 a0 μ).bind fun x88 => (gf_I 12 33 a0 μ).bind fun x92 => (ga_L x88 x92 μ).bind fun x95 => (f_X11_dreamtBy x95 s71.2 μ).bind fun x98 => some (.inl (v86, x98)) else some (.inr s71.1)
noncomputable def f_X11_ring_L31 (a0 : Nat) (μ : Mm) (s31 : Int32 × Int32 × Int32) : Option ((Int32 × Int32 × Int32) ⊕ (Int32)) :=
  (gf_P 12 12 a0 μ).bind fun x34 => (ga_I x34 (0 : Int32) μ).bind fun x38 => if x38 ≤ s31.2.2 then some (.inr s31.1) else (f_X11_isAlone a0 s31.2.2 μ).bind fun x45 => if x45 = 0 then if ((s31.2.1 >>> (s31.2.2 &&& 31)) &&& (1 : Int32)) = (1 : Int32) then f_X11_ring_J106 a0 s31.1 s31.2.1 s31.2.2 μ else (some (s31.1 + (1 : Int32))).bind fun v64 => (whl (f_X11_ring_L71 a0 v64 s31.2.2 μ) (s31.2.1, s31.2.2)).bind (fun b71 => f_X11_ring_J106 a0 v64 b71 s31.2.2 μ) else f_X11_ring_J106 a0 s31.1 s31.2.1 s31.2.2 μ
noncomputable def f_X11_ring (a0 : Nat) (l1 : Int32) (μ : Mm) : Option Int32 :=
  if (mm_K μ a0).1 = 12 then if l1 = (-1 : Int32) then (whl (f_X11_ring_L31 a0 μ) ((0 : Int32), (0 : Int32), (0 : Int32))).bind (fun b31 => some b31) else (f_X11_isPerson a0 l1 μ).bind fun x7 => if x7 = 0 then some (-2 : Int32) else (f_X11_ringOf a0 l1 μ).bind fun x15 => some x15 else none
abbrev Rn_X11_ring (G : Gv) (Q : Option Value → Mm → Prop) (pc : Nat) (lv : List (Nat × Value)) (st : List Value) (μ : Mm) : Prop := Rn G RX11 cX11_ring 6 (some .int) "ring" (rmd 2 0 0) (Zm G 0 0 Q) 0 0 pc lv st μ
set_option maxRecDepth 100000 in
set_option maxHeartbeats 4000000 in
theorem m_X11_ring {G : Gv} (a0 : Nat) (l1 : Int32) (μ : Mm) {r : Int32} (hx : f_X11_ring a0 l1 μ = some r) : Mt G yX11_ring cX11_ring 6 (some .int) 2 0 0 [.ref a0, .int l1] μ (fun v μ' => v = some (.int r) ∧ μ' = μ) := by
  refine Mt.of (by decide) (Nat.le_of_ble_eq_true rfl) ?_
  show Rn_X11_ring G (fun v μ' => v = some (.int r) ∧ μ' = μ) 0 [(0, .ref a0), (1, .int l1)] [] μ
  obtain ⟨_, h⟩ := Sat_ifp (show Sat (f_X11_ring a0 l1 μ) (fun x => x = r) from ⟨_, hx, rfl⟩)
  refine r_iload_n dX11_ring_0 1 rfl ?_
  refine r_iconst (v := -1) dX11_ring_1 (by decide) ?_
  refine r_icmp_eq 24 dX11_ring_2 (by decide) (fun c2 => ?_) (fun c2 => ?_)
  · have h := Sat_pos c2 h
    refine r_iconst (v := 0) dX11_ring_24 (by decide) ?_
    refine r_istore_n (lv' := [(2, .int (0 : Int32)), (0, .ref a0), (1, .int l1)]) dX11_ring_25 rfl (by decide) rfl ?_
    refine r_iconst (v := 0) dX11_ring_26 (by decide) ?_
    refine r_istore_n (lv' := [(3, .int (0 : Int32)), (2, .int (0 : Int32)), (0, .ref a0), (1, .int l1)]) dX11_ring_27 rfl (by decide) rfl ?_
    refine r_iconst (v := 0) dX11_ring_28 (by decide) ?_
    refine r_istore (lv' := [(4, .int (0 : Int32)), (3, .int (0 : Int32)), (2, .int (0 : Int32)), (0, .ref a0), (1, .int l1)]) dX11_ring_29 (by decide) rfl ?_
    refine r_sub (lv' := [(0, .ref a0), (2, .int (0 : Int32)), (3, .int (0 : Int32)), (4, .int (0 : Int32))]) [3, 2, 1, 0] rfl ?_
    refine whl_K (s0 := (((0 : Int32), (0 : Int32), (0 : Int32)) : Int32 × Int32 × Int32)) (RR := fun (s31 : Int32 × Int32 × Int32) => Rn_X11_ring G (fun v μ' => v = some (.int r) ∧ μ' = μ) 31 [(0, .ref a0), (2, .int s31.1), (3, .int s31.2.1), (4, .int s31.2.2)] [] μ) ?_ (Sat_bindK h)
    intro s31 K31 hI31 hX31 h
    have J106 : ∀ (l2_106 : Int32) (l3_106 : Int32) (l4_106 : Int32), Sat (f_X11_ring_J106 a0 l2_106 l3_106 l4_106 μ) K31 → Rn_X11_ring G (fun v μ' => v = some (.int r) ∧ μ' = μ) 106 [(0, .ref a0), (2, .int l2_106), (3, .int l3_106), (4, .int l4_106)] [] μ := by
      intro l2_106 l3_106 l4_106 h
      obtain ⟨v106, e106, h⟩ := Sat_bind h
      refine r_iinc (j := 3) (v := v106) (lv' := [(4, .int v106), (0, .ref a0), (2, .int l2_106), (3, .int l3_106)]) dX11_ring_106 rfl (iinc_v e106 (by decide)) (by decide) rfl ?_
      refine r_goto 31 dX11_ring_109 (by decide) ?_
      exact r_sub [1, 2, 3, 0] rfl (hI31 _ (Sat_some h))
    refine r_iload dX11_ring_31 3 rfl ?_
    refine r_aload_n dX11_ring_33 0 rfl ?_
    obtain ⟨x34, e34, h⟩ := Sat_bind h
    refine r_getP fk_X11_17 rfl e34 dX11_ring_34 ?_
    refine r_iconst (v := 0) dX11_ring_37 (by decide) ?_
    obtain ⟨x38, e38, h⟩ := Sat_bind h
    refine r_iaload e38 dX11_ring_38 ?_
    refine r_icmp_ge 112 dX11_ring_39 (by decide) (fun c39 => ?_) (fun c39 => ?_)
    · have h := Sat_pos c39 h
      have h := hX31 _ (Sat_some h)
      refine r_iload_n dX11_ring_112 1 rfl ?_
      exact r_ireturn rfl (by rw [← Sat_eq h]; exact ⟨rfl, rfl⟩) dX11_ring_113
    · have h := Sat_neg c39 h
      refine r_aload_n dX11_ring_42 0 rfl ?_
      refine r_iload dX11_ring_43 3 rfl ?_
      obtain ⟨x45, e45, h⟩ := Sat_bind h
      refine r_cV (t := 12) [.int s31.2.2] [] (m_X11_isAlone a0 s31.2.2 μ e45) ck_X11_isAlone lk_X11_312 in_X11_isAlone se_X11_isAlone (kd_of e45) ⟨rfl, by decide, by decide⟩ rfl rfl (Nat.le_of_ble_eq_true rfl) ⟨by decide, by decide⟩ ⟨Nat.zero_le _, Nat.zero_le _⟩ dX11_ring_45 ?_
      refine r_if_ne 106 dX11_ring_48 (by decide) (fun c48 => ?_) (fun c48 => ?_)
      · have h := Sat_neg c48 h
        exact r_sub [0, 1, 2, 3] rfl (J106 s31.1 s31.2.1 s31.2.2 h)
      · have h := Sat_pos c48 h
        refine r_iload_n dX11_ring_51 2 rfl ?_
        refine r_iload dX11_ring_52 3 rfl ?_
        refine r_ishr dX11_ring_54 ?_
        refine r_iconst (v := 1) dX11_ring_55 (by decide) ?_
        refine r_iand dX11_ring_56 ?_
        refine r_iconst (v := 1) dX11_ring_57 (by decide) ?_
        refine r_icmp_ne 64 dX11_ring_58 (by decide) (fun c58 => ?_) (fun c58 => ?_)
        · have h := Sat_neg c58 h
          obtain ⟨v64, e64, h⟩ := Sat_bind h
          refine r_iinc (j := 1) (v := v64) (lv' := [(2, .int v64), (0, .ref a0), (3, .int s31.2.1), (4, .int s31.2.2)]) dX11_ring_64 rfl (iinc_v e64 (by decide)) (by decide) rfl ?_
          refine r_iload dX11_ring_67 3 rfl ?_
          refine r_istore (lv' := [(5, .int s31.2.2), (2, .int v64), (0, .ref a0), (3, .int s31.2.1), (4, .int s31.2.2)]) dX11_ring_69 (by decide) rfl ?_
          refine r_sub (lv' := [(0, .ref a0), (2, .int v64), (3, .int s31.2.1), (4, .int s31.2.2), (5, .int s31.2.2)]) [2, 1, 3, 4, 0] rfl ?_
          refine whl_K (s0 := ((s31.2.1, s31.2.2) : Int32 × Int32)) (RR := fun (s71 : Int32 × Int32) => Rn_X11_ring G (fun v μ' => v = some (.int r) ∧ μ' = μ) 71 [(0, .ref a0), (2, .int v64), (3, .int s71.1), (4, .int s31.2.2), (5, .int s71.2)] [] μ) ?_ (Sat_bindK h)
          intro s71 K71 hI71 hX71 h
          refine r_iload_n dX11_ring_71 2 rfl ?_
          refine r_iload dX11_ring_72 4 rfl ?_
          refine r_ishr dX11_ring_74 ?_
          refine r_iconst (v := 1) dX11_ring_75 (by decide) ?_
          refine r_iand dX11_ring_76 ?_
          refine r_if_ne 106 dX11_ring_77 (by decide) (fun c77 => ?_) (fun c77 => ?_)
          · have h := Sat_neg c77 h
            have h := hX71 _ (Sat_some h)
            exact r_sub [0, 1, 2, 3] rfl (J106 v64 s71.1 s31.2.2 h)
          · have h := Sat_pos c77 h
            refine r_iload_n dX11_ring_80 2 rfl ?_
            refine r_iconst (v := 1) dX11_ring_81 (by decide) ?_
            refine r_iload dX11_ring_82 4 rfl ?_
            refine r_ishl dX11_ring_84 ?_
            refine r_ior dX11_ring_85 ?_
            obtain ⟨v86, e86, h⟩ := Sat_bind h
            refine r_topi (Option.some.inj e86) ?_
            refine r_istore_n (lv' := [(3, .int v86), (0, .ref a0), (2, .int v64), (4, .int s31.2.2), (5, .int s71.2)]) dX11_ring_86 rfl (by decide) rfl ?_
            refine r_aload_n dX11_ring_87 1 rfl ?_
            obtain ⟨x88, e88, h⟩ := Sat_bind h
            refine r_getP fk_X11_73 rfl e88 dX11_ring_88 ?_
            refine r_aload_n dX11_ring_91 1 rfl ?_
            obtain ⟨x92, e92, h⟩ := Sat_bind h
            refine r_getI fk_X11_241 rfl e92 dX11_ring_92 ?_
            obtain ⟨x95, e95, h⟩ := Sat_bind h
            refine r_laload e95 dX11_ring_95 ?_
            refine r_iload dX11_ring_96 4 rfl ?_
            obtain ⟨x98, e98, h⟩ := Sat_bind h
            refine r_cS [.long x95, .int s71.2] [] (m_X11_dreamtBy x95 s71.2 μ e98) ck_X11_dreamtBy lk_X11_320 st_X11_dreamtBy rfl rfl (Nat.le_of_ble_eq_true rfl) ⟨by decide, by decide⟩ ⟨Nat.zero_le _, Nat.zero_le _⟩ dX11_ring_98 ?_
            refine r_istore (lv' := [(5, .int x98), (3, .int v86), (0, .ref a0), (2, .int v64), (4, .int s31.2.2)]) dX11_ring_101 (by decide) rfl ?_
            refine r_goto 71 dX11_ring_103 (by decide) ?_
            exact r_sub [2, 3, 1, 4, 0] rfl (hI71 _ (Sat_some h))
        · have h := Sat_pos c58 h
          refine r_goto 106 dX11_ring_61 (by decide) ?_
          exact r_sub [0, 1, 2, 3] rfl (J106 s31.1 s31.2.1 s31.2.2 h)
  · have h := Sat_neg c2 h
    refine r_aload_n dX11_ring_5 0 rfl ?_
    refine r_iload_n dX11_ring_6 1 rfl ?_
    obtain ⟨x7, e7, h⟩ := Sat_bind h
    refine r_cV (t := 12) [.int l1] [] (m_X11_isPerson a0 l1 μ e7) ck_X11_isPerson lk_X11_309 in_X11_isPerson se_X11_isPerson (kd_of e7) ⟨rfl, by decide, by decide⟩ rfl rfl (Nat.le_of_ble_eq_true rfl) ⟨by decide, by decide⟩ ⟨Nat.zero_le _, Nat.zero_le _⟩ dX11_ring_7 ?_
    refine r_if_eq 21 dX11_ring_10 (by decide) (fun c10 => ?_) (fun c10 => ?_)
    · have h := Sat_pos c10 h
      refine r_bipush (v := -2) dX11_ring_21 (by decide) ?_
      exact r_ireturn rfl (by rw [← Sat_eq h]; exact ⟨rfl, rfl⟩) dX11_ring_23
    · have h := Sat_neg c10 h
      refine r_aload_n dX11_ring_13 0 rfl ?_
      refine r_iload_n dX11_ring_14 1 rfl ?_
      obtain ⟨x15, e15, h⟩ := Sat_bind h
      refine r_cV (t := 12) [.int l1] [] (m_X11_ringOf a0 l1 μ e15) ck_X11_ringOf lk_X11_426 in_X11_ringOf se_X11_ringOf (kd_of e15) ⟨rfl, by decide, by decide⟩ rfl rfl (Nat.le_of_ble_eq_true rfl) ⟨by decide, by decide⟩ ⟨Nat.zero_le _, Nat.zero_le _⟩ dX11_ring_15 ?_
      refine r_goto 23 dX11_ring_18 (by decide) ?_
      exact r_ireturn rfl (by rw [← Sat_eq h]; exact ⟨rfl, rfl⟩) dX11_ring_23
theorem dX11_rings_0 : decode cX11_rings 0 = .ok (.aload_n 0, 1) := by decide +kernel
theorem dX11_rings_1 : decode cX11_rings 1 = .ok (.invokevirtual 300, 3) := by decide +kernel
theorem dX11_rings_4 : decode cX11_rings 4 = .ok (.iconst 0, 1) := by decide +kernel
theorem dX11_rings_5 : decode cX11_rings 5 = .ok (.istore_n 1, 1) := by decide +kernel
theorem dX11_rings_6 : decode cX11_rings 6 = .ok (.iload_n 1, 1) := by decide +kernel
theorem dX11_rings_7 : decode cX11_rings 7 = .ok (.bipush 20, 2) := by decide +kernel
theorem dX11_rings_9 : decode cX11_rings 9 = .ok (.if_icmp .gt 16, 3) := by decide +kernel
theorem dX11_rings_12 : decode cX11_rings 12 = .ok (.aload_n 0, 1) := by decide +kernel
theorem dX11_rings_13 : decode cX11_rings 13 = .ok (.getfield 127, 3) := by decide +kernel
theorem dX11_rings_16 : decode cX11_rings 16 = .ok (.iload_n 1, 1) := by decide +kernel
theorem dX11_rings_17 : decode cX11_rings 17 = .ok (.iconst 0, 1) := by decide +kernel
theorem dX11_rings_18 : decode cX11_rings 18 = .ok (.iastore, 1) := by decide +kernel
theorem dX11_rings_19 : decode cX11_rings 19 = .ok (.iinc 1 1, 3) := by decide +kernel
theorem dX11_rings_22 : decode cX11_rings 22 = .ok (.goto (-16), 3) := by decide +kernel
theorem dX11_rings_25 : decode cX11_rings 25 = .ok (.iconst 0, 1) := by decide +kernel
theorem dX11_rings_26 : decode cX11_rings 26 = .ok (.istore_n 1, 1) := by decide +kernel
theorem dX11_rings_27 : decode cX11_rings 27 = .ok (.aload_n 0, 1) := by decide +kernel
theorem dX11_rings_28 : decode cX11_rings 28 = .ok (.getfield 186, 3) := by decide +kernel
theorem dX11_rings_31 : decode cX11_rings 31 = .ok (.iconst 4, 1) := by decide +kernel
theorem dX11_rings_32 : decode cX11_rings 32 = .ok (.if_icmp .eq 66, 3) := by decide +kernel
theorem dX11_rings_35 : decode cX11_rings 35 = .ok (.aload_n 0, 1) := by decide +kernel
theorem dX11_rings_36 : decode cX11_rings 36 = .ok (.getfield 186, 3) := by decide +kernel
theorem dX11_rings_39 : decode cX11_rings 39 = .ok (.iconst 2, 1) := by decide +kernel
theorem dX11_rings_40 : decode cX11_rings 40 = .ok (.if_icmp .ne 27, 3) := by decide +kernel
theorem dX11_rings_43 : decode cX11_rings 43 = .ok (.aload_n 0, 1) := by decide +kernel
theorem dX11_rings_44 : decode cX11_rings 44 = .ok (.getfield 208, 3) := by decide +kernel
theorem dX11_rings_47 : decode cX11_rings 47 = .ok (.iconst 2, 1) := by decide +kernel
theorem dX11_rings_48 : decode cX11_rings 48 = .ok (.bipush 20, 2) := by decide +kernel
theorem dX11_rings_50 : decode cX11_rings 50 = .ok (.invokestatic 217, 3) := by decide +kernel
theorem dX11_rings_53 : decode cX11_rings 53 = .ok (.ifCond .eq 14, 3) := by decide +kernel
theorem dX11_rings_56 : decode cX11_rings 56 = .ok (.iload_n 1, 1) := by decide +kernel
theorem dX11_rings_57 : decode cX11_rings 57 = .ok (.aload_n 0, 1) := by decide +kernel
theorem dX11_rings_58 : decode cX11_rings 58 = .ok (.getfield 208, 3) := by decide +kernel
theorem dX11_rings_61 : decode cX11_rings 61 = .ok (.iadd, 1) := by decide +kernel
theorem dX11_rings_62 : decode cX11_rings 62 = .ok (.bipush 20, 2) := by decide +kernel
theorem dX11_rings_64 : decode cX11_rings 64 = .ok (.if_icmp .le 7, 3) := by decide +kernel
theorem dX11_rings_67 : decode cX11_rings 67 = .ok (.ldc2_w 429, 3) := by decide +kernel
theorem dX11_rings_70 : decode cX11_rings 70 = .ok (.lreturn, 1) := by decide +kernel
theorem dX11_rings_71 : decode cX11_rings 71 = .ok (.aload_n 0, 1) := by decide +kernel
theorem dX11_rings_72 : decode cX11_rings 72 = .ok (.getfield 127, 3) := by decide +kernel
theorem dX11_rings_75 : decode cX11_rings 75 = .ok (.aload_n 0, 1) := by decide +kernel
theorem dX11_rings_76 : decode cX11_rings 76 = .ok (.getfield 208, 3) := by decide +kernel
theorem dX11_rings_79 : decode cX11_rings 79 = .ok (.dup2, 1) := by decide +kernel
theorem dX11_rings_80 : decode cX11_rings 80 = .ok (.iaload, 1) := by decide +kernel
theorem dX11_rings_81 : decode cX11_rings 81 = .ok (.iconst 1, 1) := by decide +kernel
theorem dX11_rings_82 : decode cX11_rings 82 = .ok (.iadd, 1) := by decide +kernel
theorem dX11_rings_83 : decode cX11_rings 83 = .ok (.iastore, 1) := by decide +kernel
theorem dX11_rings_84 : decode cX11_rings 84 = .ok (.iload_n 1, 1) := by decide +kernel
theorem dX11_rings_85 : decode cX11_rings 85 = .ok (.aload_n 0, 1) := by decide +kernel
theorem dX11_rings_86 : decode cX11_rings 86 = .ok (.getfield 208, 3) := by decide +kernel
theorem dX11_rings_89 : decode cX11_rings 89 = .ok (.iadd, 1) := by decide +kernel
theorem dX11_rings_90 : decode cX11_rings 90 = .ok (.istore_n 1, 1) := by decide +kernel
theorem dX11_rings_91 : decode cX11_rings 91 = .ok (.aload_n 0, 1) := by decide +kernel
theorem dX11_rings_92 : decode cX11_rings 92 = .ok (.invokevirtual 224, 3) := by decide +kernel
theorem dX11_rings_95 : decode cX11_rings 95 = .ok (.goto (-68), 3) := by decide +kernel
theorem dX11_rings_98 : decode cX11_rings 98 = .ok (.iload_n 1, 1) := by decide +kernel
theorem dX11_rings_99 : decode cX11_rings 99 = .ok (.invokestatic 437, 3) := by decide +kernel
theorem dX11_rings_102 : decode cX11_rings 102 = .ok (.lstore_n 2, 1) := by decide +kernel
theorem dX11_rings_103 : decode cX11_rings 103 = .ok (.iconst 2, 1) := by decide +kernel
theorem dX11_rings_104 : decode cX11_rings 104 = .ok (.istore 4, 2) := by decide +kernel
theorem dX11_rings_106 : decode cX11_rings 106 = .ok (.iload 4, 2) := by decide +kernel
theorem dX11_rings_108 : decode cX11_rings 108 = .ok (.bipush 20, 2) := by decide +kernel
theorem dX11_rings_110 : decode cX11_rings 110 = .ok (.if_icmp .gt 49, 3) := by decide +kernel
theorem dX11_rings_113 : decode cX11_rings 113 = .ok (.iconst 0, 1) := by decide +kernel
theorem dX11_rings_114 : decode cX11_rings 114 = .ok (.istore 5, 2) := by decide +kernel
theorem dX11_rings_116 : decode cX11_rings 116 = .ok (.iload 5, 2) := by decide +kernel
theorem dX11_rings_118 : decode cX11_rings 118 = .ok (.aload_n 0, 1) := by decide +kernel
theorem dX11_rings_119 : decode cX11_rings 119 = .ok (.getfield 127, 3) := by decide +kernel
theorem dX11_rings_122 : decode cX11_rings 122 = .ok (.iload 4, 2) := by decide +kernel
theorem dX11_rings_124 : decode cX11_rings 124 = .ok (.iaload, 1) := by decide +kernel
theorem dX11_rings_125 : decode cX11_rings 125 = .ok (.if_icmp .ge 15, 3) := by decide +kernel
theorem dX11_rings_128 : decode cX11_rings 128 = .ok (.lload_n 2, 1) := by decide +kernel
theorem dX11_rings_129 : decode cX11_rings 129 = .ok (.iload 4, 2) := by decide +kernel
theorem dX11_rings_131 : decode cX11_rings 131 = .ok (.i2l, 1) := by decide +kernel
theorem dX11_rings_132 : decode cX11_rings 132 = .ok (.ldiv, 1) := by decide +kernel
theorem dX11_rings_133 : decode cX11_rings 133 = .ok (.lstore_n 2, 1) := by decide +kernel
theorem dX11_rings_134 : decode cX11_rings 134 = .ok (.iinc 5 1, 3) := by decide +kernel
theorem dX11_rings_137 : decode cX11_rings 137 = .ok (.goto (-21), 3) := by decide +kernel
theorem dX11_rings_140 : decode cX11_rings 140 = .ok (.lload_n 2, 1) := by decide +kernel
theorem dX11_rings_141 : decode cX11_rings 141 = .ok (.aload_n 0, 1) := by decide +kernel
theorem dX11_rings_142 : decode cX11_rings 142 = .ok (.getfield 127, 3) := by decide +kernel
theorem dX11_rings_145 : decode cX11_rings 145 = .ok (.iload 4, 2) := by decide +kernel
theorem dX11_rings_147 : decode cX11_rings 147 = .ok (.iaload, 1) := by decide +kernel
theorem dX11_rings_148 : decode cX11_rings 148 = .ok (.invokestatic 437, 3) := by decide +kernel
theorem dX11_rings_151 : decode cX11_rings 151 = .ok (.ldiv, 1) := by decide +kernel
theorem dX11_rings_152 : decode cX11_rings 152 = .ok (.lstore_n 2, 1) := by decide +kernel
theorem dX11_rings_153 : decode cX11_rings 153 = .ok (.iinc 4 1, 3) := by decide +kernel
theorem dX11_rings_156 : decode cX11_rings 156 = .ok (.goto (-50), 3) := by decide +kernel
theorem dX11_rings_159 : decode cX11_rings 159 = .ok (.lload_n 2, 1) := by decide +kernel
theorem dX11_rings_160 : decode cX11_rings 160 = .ok (.lreturn, 1) := by decide +kernel
noncomputable def f_X11_rings_J140 (a0 : Nat) (l2 : Int64) (l4 : Int32) (μ : Mm) : Option ((Int64 × Int32) ⊕ (Int64)) :=
  (gf_P 12 62 a0 μ).bind fun x142 => (ga_I x142 l4 μ).bind fun x147 => (f_X11_factorial x147 μ).bind fun x148 => if x148 = 0 then none else (some (l2 / x148)).bind fun v152 => (some (l4 + (1 : Int32))).bind fun v153 => some (.inl (v152, v153))
noncomputable def f_X11_rings_L116 (a0 : Nat) (l4 : Int32) (μ : Mm) (s116 : Int64 × Int32) : Option ((Int64 × Int32) ⊕ (Int64)) :=
  (gf_P 12 62 a0 μ).bind fun x119 => (ga_I x119 l4 μ).bind fun x124 => if x124 ≤ s116.2 then some (.inr s116.1) else if l4.toInt64 = 0 then none else (some (s116.1 / l4.toInt64)).bind fun v133 => (some (s116.2 + (1 : Int32))).bind fun v134 => some (.inl (v133, v134))
noncomputable def f_X11_rings_L106 (a0 : Nat) (μ : Mm) (s106 : Int64 × Int32) : Option ((Int64 × Int32) ⊕ (Int64)) :=
  if (20 : Int32) < s106.2 then some (.inr s106.1) else (whl (f_X11_rings_L116 a0 s106.2 μ) (s106.1, (0 : Int32))).bind (fun b116 => f_X11_rings_J140 a0 b116 s106.2 μ)
noncomputable def f_X11_rings_J98 (a0 : Nat) (l1 : Int32) (μ : Mm) : Option (Int64 × Mm) :=
  (f_X11_factorial l1 μ).bind fun x99 => (whl (f_X11_rings_L106 a0 μ) (x99, (2 : Int32))).bind (fun b106 => some (b106, μ))
noncomputable def f_X11_rings_L27 (a0 : Nat) (s27 : Int32 × Mm) : Option ((Int32 × Mm) ⊕ ((Mm) ⊕ (Int32 × Mm))) :=
  (gf_I 12 3 a0 s27.2).bind fun x28 => if x28 = (4 : Int32) then some (.inr (.inr (s27.1, s27.2))) else (gf_I 12 3 a0 s27.2).bind fun x36 => if x36 = (2 : Int32) then (gf_I 12 7 a0 s27.2).bind fun x44 => (f_X11_in x44 (2 : Int32) (20 : Int32) s27.2).bind fun x50 => if x50 = 0 then some (.inr (.inl s27.2)) else (gf_I 12 7 a0 s27.2).bind fun x58 => if (s27.1 + x58) ≤ (20 : Int32) then (gf_P 12 62 a0 s27.2).bind fun x72 => (gf_I 12 7 a0 s27.2).bind fun x76 => (ga_I x72 x76 s27.2).bind fun x80 => (pa_I x72 x76 (x80 + (1 : Int32)) s27.2).bind fun μ83 => (gf_I 12 7 a0 μ83).bind fun x86 => (some (s27.1 + x86)).bind fun v90 => (f_X11_scan a0 μ83).bind fun x92 => some (.inl (v90, x92)) else some (.inr (.inl s27.2)) else some (.inr (.inl s27.2))
noncomputable def f_X11_rings_J25 (a0 : Nat) (μ : Mm) : Option (Int64 × Mm) :=
  (whl (f_X11_rings_L27 a0) ((0 : Int32), μ)).bind (sm (fun b27 => some ((-1 : Int64), b27)) (fun b27 => f_X11_rings_J98 a0 b27.1 b27.2))
noncomputable def f_X11_rings_L6 (a0 : Nat) (s6 : Int32 × Mm) : Option ((Int32 × Mm) ⊕ (Mm)) :=
  if (20 : Int32) < s6.1 then some (.inr s6.2) else (gf_P 12 62 a0 s6.2).bind fun x13 => (pa_I x13 s6.1 (0 : Int32) s6.2).bind fun μ18 => (some (s6.1 + (1 : Int32))).bind fun v19 => some (.inl (v19, μ18))
noncomputable def f_X11_rings (a0 : Nat) (μ : Mm) : Option (Int64 × Mm) :=
  if (mm_K μ a0).1 = 12 then (f_X11_takeTape a0 μ).bind fun x1 => (whl (f_X11_rings_L6 a0) ((0 : Int32), x1)).bind (fun b6 => f_X11_rings_J25 a0 b6) else none
abbrev Rn_X11_rings (G : Gv) (Q : Option Value → Mm → Prop) (pc : Nat) (lv : List (Nat × Value)) (st : List Value) (μ : Mm) : Prop := Rn G RX11 cX11_rings 6 (some .long) "rings" (rmd 7 0 0) (Zm G 0 0 Q) 0 0 pc lv st μ
set_option maxRecDepth 100000 in
set_option maxHeartbeats 4000000 in
theorem m_X11_rings {G : Gv} (a0 : Nat) (μ : Mm) {r : (Int64 × Mm)} (hx : f_X11_rings a0 μ = some r) : Mt G yX11_rings cX11_rings 6 (some .long) 7 0 0 [.ref a0] μ (fun v μ' => v = some (.long r.1) ∧ μ' = r.2) := by
  refine Mt.of (by decide) (Nat.le_of_ble_eq_true rfl) ?_
  show Rn_X11_rings G (fun v μ' => v = some (.long r.1) ∧ μ' = r.2) 0 [(0, .ref a0)] [] μ
  obtain ⟨_, h⟩ := Sat_ifp (show Sat (f_X11_rings a0 μ) (fun x => x = r) from ⟨_, hx, rfl⟩)
  have J98 : ∀ (a0_98 : Nat) (l1_98 : Int32) (μ_98 : Mm), Sat (f_X11_rings_J98 a0_98 l1_98 μ_98) (fun x => x = r) → Rn_X11_rings G (fun v μ' => v = some (.long r.1) ∧ μ' = r.2) 98 [(0, .ref a0_98), (1, .int l1_98)] [] μ_98 := by
    intro a0_98 l1_98 μ_98 h
    refine r_iload_n dX11_rings_98 1 rfl ?_
    obtain ⟨x99, e99, h⟩ := Sat_bind h
    refine r_cS [.int l1_98] [] (m_X11_factorial l1_98 μ_98 e99) ck_X11_factorial lk_X11_437 st_X11_factorial rfl rfl (Nat.le_of_ble_eq_true rfl) ⟨by decide, by decide⟩ ⟨Nat.zero_le _, Nat.zero_le _⟩ dX11_rings_99 ?_
    refine r_lstore_n (lv' := [(2, .long x99), (0, .ref a0_98), (1, .int l1_98)]) dX11_rings_102 rfl (by decide) rfl ?_
    refine r_iconst (v := 2) dX11_rings_103 (by decide) ?_
    refine r_istore (lv' := [(4, .int (2 : Int32)), (2, .long x99), (0, .ref a0_98), (1, .int l1_98)]) dX11_rings_104 (by decide) rfl ?_
    refine r_sub (lv' := [(0, .ref a0_98), (2, .long x99), (4, .int (2 : Int32))]) [2, 1, 0] rfl ?_
    refine whl_K (s0 := ((x99, (2 : Int32)) : Int64 × Int32)) (RR := fun (s106 : Int64 × Int32) => Rn_X11_rings G (fun v μ' => v = some (.long r.1) ∧ μ' = r.2) 106 [(0, .ref a0_98), (2, .long s106.1), (4, .int s106.2)] [] μ_98) ?_ (Sat_bindK h)
    intro s106 K106 hI106 hX106 h
    have J140 : ∀ (l2_140 : Int64) (l4_140 : Int32), Sat (f_X11_rings_J140 a0_98 l2_140 l4_140 μ_98) K106 → Rn_X11_rings G (fun v μ' => v = some (.long r.1) ∧ μ' = r.2) 140 [(0, .ref a0_98), (2, .long l2_140), (4, .int l4_140)] [] μ_98 := by
      intro l2_140 l4_140 h
      refine r_lload_n dX11_rings_140 1 rfl ?_
      refine r_aload_n dX11_rings_141 0 rfl ?_
      obtain ⟨x142, e142, h⟩ := Sat_bind h
      refine r_getP fk_X11_127 rfl e142 dX11_rings_142 ?_
      refine r_iload dX11_rings_145 2 rfl ?_
      obtain ⟨x147, e147, h⟩ := Sat_bind h
      refine r_iaload e147 dX11_rings_147 ?_
      obtain ⟨x148, e148, h⟩ := Sat_bind h
      refine r_cS [.int x147] [.long l2_140] (m_X11_factorial x147 μ_98 e148) ck_X11_factorial lk_X11_437 st_X11_factorial rfl rfl (Nat.le_of_ble_eq_true rfl) ⟨by decide, by decide⟩ ⟨Nat.zero_le _, Nat.zero_le _⟩ dX11_rings_148 ?_
      obtain ⟨z151, h⟩ := Sat_ifn h
      refine r_ldiv dX11_rings_151 z151 ?_
      obtain ⟨v152, e152, h⟩ := Sat_bind h
      refine r_topl (Option.some.inj e152) ?_
      refine r_lstore_n (lv' := [(2, .long v152), (0, .ref a0_98), (4, .int l4_140)]) dX11_rings_152 rfl (by decide) rfl ?_
      obtain ⟨v153, e153, h⟩ := Sat_bind h
      refine r_iinc (j := 2) (v := v153) (lv' := [(4, .int v153), (2, .long v152), (0, .ref a0_98)]) dX11_rings_153 rfl (iinc_v e153 (by decide)) (by decide) rfl ?_
      refine r_goto 106 dX11_rings_156 (by decide) ?_
      exact r_sub [2, 1, 0] rfl (hI106 _ (Sat_some h))
    refine r_iload dX11_rings_106 2 rfl ?_
    refine r_bipush (v := 20) dX11_rings_108 (by decide) ?_
    refine r_icmp_gt 159 dX11_rings_110 (by decide) (fun c110 => ?_) (fun c110 => ?_)
    · have h := Sat_pos c110 h
      have h := hX106 _ (Sat_some h)
      refine r_lload_n dX11_rings_159 1 rfl ?_
      exact r_lreturn rfl (by rw [← Sat_eq h]; exact ⟨rfl, rfl⟩) dX11_rings_160
    · have h := Sat_neg c110 h
      refine r_iconst (v := 0) dX11_rings_113 (by decide) ?_
      refine r_istore (lv' := [(5, .int (0 : Int32)), (0, .ref a0_98), (2, .long s106.1), (4, .int s106.2)]) dX11_rings_114 (by decide) rfl ?_
      refine r_sub (lv' := [(0, .ref a0_98), (2, .long s106.1), (4, .int s106.2), (5, .int (0 : Int32))]) [1, 2, 3, 0] rfl ?_
      refine whl_K (s0 := ((s106.1, (0 : Int32)) : Int64 × Int32)) (RR := fun (s116 : Int64 × Int32) => Rn_X11_rings G (fun v μ' => v = some (.long r.1) ∧ μ' = r.2) 116 [(0, .ref a0_98), (2, .long s116.1), (4, .int s106.2), (5, .int s116.2)] [] μ_98) ?_ (Sat_bindK h)
      intro s116 K116 hI116 hX116 h
      refine r_iload dX11_rings_116 3 rfl ?_
      refine r_aload_n dX11_rings_118 0 rfl ?_
      obtain ⟨x119, e119, h⟩ := Sat_bind h
      refine r_getP fk_X11_127 rfl e119 dX11_rings_119 ?_
      refine r_iload dX11_rings_122 2 rfl ?_
      obtain ⟨x124, e124, h⟩ := Sat_bind h
      refine r_iaload e124 dX11_rings_124 ?_
      refine r_icmp_ge 140 dX11_rings_125 (by decide) (fun c125 => ?_) (fun c125 => ?_)
      · have h := Sat_pos c125 h
        have h := hX116 _ (Sat_some h)
        exact r_sub [0, 1, 2] rfl (J140 s116.1 s106.2 h)
      · have h := Sat_neg c125 h
        refine r_lload_n dX11_rings_128 1 rfl ?_
        refine r_iload dX11_rings_129 2 rfl ?_
        refine r_i2l dX11_rings_131 ?_
        obtain ⟨z132, h⟩ := Sat_ifn h
        refine r_ldiv dX11_rings_132 z132 ?_
        obtain ⟨v133, e133, h⟩ := Sat_bind h
        refine r_topl (Option.some.inj e133) ?_
        refine r_lstore_n (lv' := [(2, .long v133), (0, .ref a0_98), (4, .int s106.2), (5, .int s116.2)]) dX11_rings_133 rfl (by decide) rfl ?_
        obtain ⟨v134, e134, h⟩ := Sat_bind h
        refine r_iinc (j := 3) (v := v134) (lv' := [(5, .int v134), (2, .long v133), (0, .ref a0_98), (4, .int s106.2)]) dX11_rings_134 rfl (iinc_v e134 (by decide)) (by decide) rfl ?_
        refine r_goto 116 dX11_rings_137 (by decide) ?_
        exact r_sub [2, 1, 3, 0] rfl (hI116 _ (Sat_some h))
  have J25 : ∀ (a0_25 : Nat) (μ_25 : Mm), Sat (f_X11_rings_J25 a0_25 μ_25) (fun x => x = r) → Rn_X11_rings G (fun v μ' => v = some (.long r.1) ∧ μ' = r.2) 25 [(0, .ref a0_25)] [] μ_25 := by
    intro a0_25 μ_25 h
    refine r_iconst (v := 0) dX11_rings_25 (by decide) ?_
    refine r_istore_n (lv' := [(1, .int (0 : Int32)), (0, .ref a0_25)]) dX11_rings_26 rfl (by decide) rfl ?_
    refine r_sub (lv' := [(0, .ref a0_25), (1, .int (0 : Int32))]) [1, 0] rfl ?_
    refine whl_K (s0 := (((0 : Int32), μ_25) : Int32 × Mm)) (RR := fun (s27 : Int32 × Mm) => Rn_X11_rings G (fun v μ' => v = some (.long r.1) ∧ μ' = r.2) 27 [(0, .ref a0_25), (1, .int s27.1)] [] s27.2) ?_ (Sat_bindK h)
    intro s27 K27 hI27 hX27 h
    refine r_aload_n dX11_rings_27 0 rfl ?_
    obtain ⟨x28, e28, h⟩ := Sat_bind h
    refine r_getI fk_X11_186 rfl e28 dX11_rings_28 ?_
    refine r_iconst (v := 4) dX11_rings_31 (by decide) ?_
    refine r_icmp_eq 98 dX11_rings_32 (by decide) (fun c32 => ?_) (fun c32 => ?_)
    · have h := Sat_pos c32 h
      have h := hX27 _ (Sat_some h)
      exact r_sub [0, 1] rfl (J98 a0_25 s27.1 s27.2 h)
    · have h := Sat_neg c32 h
      refine r_aload_n dX11_rings_35 0 rfl ?_
      obtain ⟨x36, e36, h⟩ := Sat_bind h
      refine r_getI fk_X11_186 rfl e36 dX11_rings_36 ?_
      refine r_iconst (v := 2) dX11_rings_39 (by decide) ?_
      refine r_icmp_ne 67 dX11_rings_40 (by decide) (fun c40 => ?_) (fun c40 => ?_)
      · have h := Sat_neg c40 h
        have h := hX27 _ (Sat_some h)
        refine r_ldc2 (v := -1) dX11_rings_67 kc_X11_429 ?_
        exact r_lreturn rfl (by rw [← Sat_eq h]; exact ⟨rfl, rfl⟩) dX11_rings_70
      · have h := Sat_pos c40 h
        refine r_aload_n dX11_rings_43 0 rfl ?_
        obtain ⟨x44, e44, h⟩ := Sat_bind h
        refine r_getI fk_X11_208 rfl e44 dX11_rings_44 ?_
        refine r_iconst (v := 2) dX11_rings_47 (by decide) ?_
        refine r_bipush (v := 20) dX11_rings_48 (by decide) ?_
        obtain ⟨x50, e50, h⟩ := Sat_bind h
        refine r_cS [.int x44, .int (2 : Int32), .int (20 : Int32)] [] (m_X11_in x44 (2 : Int32) (20 : Int32) s27.2 e50) ck_X11_in lk_X11_217 st_X11_in rfl rfl (Nat.le_of_ble_eq_true rfl) ⟨by decide, by decide⟩ ⟨Nat.zero_le _, Nat.zero_le _⟩ dX11_rings_50 ?_
        refine r_if_eq 67 dX11_rings_53 (by decide) (fun c53 => ?_) (fun c53 => ?_)
        · have h := Sat_pos c53 h
          have h := hX27 _ (Sat_some h)
          refine r_ldc2 (v := -1) dX11_rings_67 kc_X11_429 ?_
          exact r_lreturn rfl (by rw [← Sat_eq h]; exact ⟨rfl, rfl⟩) dX11_rings_70
        · have h := Sat_neg c53 h
          refine r_iload_n dX11_rings_56 1 rfl ?_
          refine r_aload_n dX11_rings_57 0 rfl ?_
          obtain ⟨x58, e58, h⟩ := Sat_bind h
          refine r_getI fk_X11_208 rfl e58 dX11_rings_58 ?_
          refine r_iadd dX11_rings_61 ?_
          refine r_bipush (v := 20) dX11_rings_62 (by decide) ?_
          refine r_icmp_le 71 dX11_rings_64 (by decide) (fun c64 => ?_) (fun c64 => ?_)
          · have h := Sat_pos c64 h
            refine r_aload_n dX11_rings_71 0 rfl ?_
            obtain ⟨x72, e72, h⟩ := Sat_bind h
            refine r_getP fk_X11_127 rfl e72 dX11_rings_72 ?_
            refine r_aload_n dX11_rings_75 0 rfl ?_
            obtain ⟨x76, e76, h⟩ := Sat_bind h
            refine r_getI fk_X11_208 rfl e76 dX11_rings_76 ?_
            refine r_dup2_11 dX11_rings_79 rfl rfl ?_
            obtain ⟨x80, e80, h⟩ := Sat_bind h
            refine r_iaload e80 dX11_rings_80 ?_
            refine r_iconst (v := 1) dX11_rings_81 (by decide) ?_
            refine r_iadd dX11_rings_82 ?_
            obtain ⟨μ83, e83, h⟩ := Sat_bind h
            refine r_iastore e83 dX11_rings_83 ?_
            refine r_iload_n dX11_rings_84 1 rfl ?_
            refine r_aload_n dX11_rings_85 0 rfl ?_
            obtain ⟨x86, e86, h⟩ := Sat_bind h
            refine r_getI fk_X11_208 rfl e86 dX11_rings_86 ?_
            refine r_iadd dX11_rings_89 ?_
            obtain ⟨v90, e90, h⟩ := Sat_bind h
            refine r_topi (Option.some.inj e90) ?_
            refine r_istore_n (lv' := [(1, .int v90), (0, .ref a0_25)]) dX11_rings_90 rfl (by decide) rfl ?_
            refine r_aload_n dX11_rings_91 1 rfl ?_
            obtain ⟨x92, e92, h⟩ := Sat_bind h
            refine r_cV (t := 12) [] [] (m_X11_scan a0_25 μ83 e92) ck_X11_scan lk_X11_224 in_X11_scan se_X11_scan (kd_of e92) ⟨rfl, by decide, by decide⟩ rfl rfl (Nat.le_of_ble_eq_true rfl) ⟨by decide, by decide⟩ ⟨Nat.zero_le _, Nat.zero_le _⟩ dX11_rings_92 ?_
            refine r_goto 27 dX11_rings_95 (by decide) ?_
            exact r_sub [1, 0] rfl (hI27 _ (Sat_some h))
          · have h := Sat_neg c64 h
            have h := hX27 _ (Sat_some h)
            refine r_ldc2 (v := -1) dX11_rings_67 kc_X11_429 ?_
            exact r_lreturn rfl (by rw [← Sat_eq h]; exact ⟨rfl, rfl⟩) dX11_rings_70
  refine r_aload_n dX11_rings_0 0 rfl ?_
  obtain ⟨x1, e1, h⟩ := Sat_bind h
  refine r_cV (t := 12) [] [] (m_X11_takeTape a0 μ e1) ck_X11_takeTape lk_X11_300 in_X11_takeTape se_X11_takeTape (kd_of e1) ⟨rfl, by decide, by decide⟩ rfl rfl (Nat.le_of_ble_eq_true rfl) ⟨by decide, by decide⟩ ⟨Nat.zero_le _, Nat.zero_le _⟩ dX11_rings_1 ?_
  refine r_iconst (v := 0) dX11_rings_4 (by decide) ?_
  refine r_istore_n (lv' := [(1, .int (0 : Int32)), (0, .ref a0)]) dX11_rings_5 rfl (by decide) rfl ?_
  refine r_sub (lv' := [(0, .ref a0), (1, .int (0 : Int32))]) [1, 0] rfl ?_
  refine whl_K (s0 := (((0 : Int32), x1) : Int32 × Mm)) (RR := fun (s6 : Int32 × Mm) => Rn_X11_rings G (fun v μ' => v = some (.long r.1) ∧ μ' = r.2) 6 [(0, .ref a0), (1, .int s6.1)] [] s6.2) ?_ (Sat_bindK h)
  intro s6 K6 hI6 hX6 h
  refine r_iload_n dX11_rings_6 1 rfl ?_
  refine r_bipush (v := 20) dX11_rings_7 (by decide) ?_
  refine r_icmp_gt 25 dX11_rings_9 (by decide) (fun c9 => ?_) (fun c9 => ?_)
  · have h := Sat_pos c9 h
    have h := hX6 _ (Sat_some h)
    exact r_sub [0] rfl (J25 a0 s6.2 h)
  · have h := Sat_neg c9 h
    refine r_aload_n dX11_rings_12 0 rfl ?_
    obtain ⟨x13, e13, h⟩ := Sat_bind h
    refine r_getP fk_X11_127 rfl e13 dX11_rings_13 ?_
    refine r_iload_n dX11_rings_16 1 rfl ?_
    refine r_iconst (v := 0) dX11_rings_17 (by decide) ?_
    obtain ⟨μ18, e18, h⟩ := Sat_bind h
    refine r_iastore e18 dX11_rings_18 ?_
    obtain ⟨v19, e19, h⟩ := Sat_bind h
    refine r_iinc (j := 1) (v := v19) (lv' := [(1, .int v19), (0, .ref a0)]) dX11_rings_19 rfl (iinc_v e19 (by decide)) (by decide) rfl ?_
    refine r_goto 6 dX11_rings_22 (by decide) ?_
    exact r_sub [1, 0] rfl (hI6 _ (Sat_some h))
