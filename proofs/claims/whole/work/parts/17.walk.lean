theorem dX11_draw_0 : decode cX11_draw 0 = .ok (.aload_n 0, 1) := by decide +kernel
theorem dX11_draw_1 : decode cX11_draw 1 = .ok (.ldc2_w 452, 3) := by decide +kernel
theorem dX11_draw_4 : decode cX11_draw 4 = .ok (.aload_n 0, 1) := by decide +kernel
theorem dX11_draw_5 : decode cX11_draw 5 = .ok (.getfield 443, 3) := by decide +kernel
theorem dX11_draw_8 : decode cX11_draw 8 = .ok (.lmul, 1) := by decide +kernel
theorem dX11_draw_9 : decode cX11_draw 9 = .ok (.ldc2_w 454, 3) := by decide +kernel
theorem dX11_draw_12 : decode cX11_draw 12 = .ok (.ladd, 1) := by decide +kernel
theorem dX11_draw_13 : decode cX11_draw 13 = .ok (.ldc2_w 456, 3) := by decide +kernel
theorem dX11_draw_16 : decode cX11_draw 16 = .ok (.lrem, 1) := by decide +kernel
theorem dX11_draw_17 : decode cX11_draw 17 = .ok (.putfield 443, 3) := by decide +kernel
theorem dX11_draw_20 : decode cX11_draw 20 = .ok (.aload_n 0, 1) := by decide +kernel
theorem dX11_draw_21 : decode cX11_draw 21 = .ok (.getfield 443, 3) := by decide +kernel
theorem dX11_draw_24 : decode cX11_draw 24 = .ok (.ldc2_w 458, 3) := by decide +kernel
theorem dX11_draw_27 : decode cX11_draw 27 = .ok (.ldiv, 1) := by decide +kernel
theorem dX11_draw_28 : decode cX11_draw 28 = .ok (.iload_n 1, 1) := by decide +kernel
theorem dX11_draw_29 : decode cX11_draw 29 = .ok (.i2l, 1) := by decide +kernel
theorem dX11_draw_30 : decode cX11_draw 30 = .ok (.lrem, 1) := by decide +kernel
theorem dX11_draw_31 : decode cX11_draw 31 = .ok (.l2i, 1) := by decide +kernel
theorem dX11_draw_32 : decode cX11_draw 32 = .ok (.ireturn, 1) := by decide +kernel
noncomputable def f_X11_draw (a0 : Nat) (l1 : Int32) (μ : Mm) : Option (Int32 × Mm) :=
  if (mm_K μ a0).1 = 12 then (gf_L 12 67 a0 μ).bind fun x5 => (pf_L 12 67 a0 ((((1103515245 : Int64) * x5) + (12345 : Int64)) - (((1103515245 : Int64) * x5) + (12345 : Int64)) / (2147483648 : Int64) * (2147483648 : Int64)) μ).bind fun μ17 => (gf_L 12 67 a0 μ17).bind fun x21 => if l1.toInt64 = 0 then none else some (((x21 / (65536 : Int64)) - (x21 / (65536 : Int64)) / l1.toInt64 * l1.toInt64).toInt32, μ17) else none
abbrev Rn_X11_draw (G : Gv) (Q : Option Value → Mm → Prop) (pc : Nat) (lv : List (Nat × Value)) (st : List Value) (μ : Mm) : Prop := Rn G RX11 cX11_draw 2 (some .int) "draw" (rmd 0 0 0) (Zm G 0 0 Q) 0 0 pc lv st μ
set_option maxRecDepth 100000 in
set_option maxHeartbeats 4000000 in
theorem m_X11_draw {G : Gv} (a0 : Nat) (l1 : Int32) (μ : Mm) {r : (Int32 × Mm)} (hx : f_X11_draw a0 l1 μ = some r) : Mt G yX11_draw cX11_draw 2 (some .int) 0 0 0 [.ref a0, .int l1] μ (fun v μ' => v = some (.int r.1) ∧ μ' = r.2) := by
  refine Mt.of (by decide) (Nat.le_of_ble_eq_true rfl) ?_
  show Rn_X11_draw G (fun v μ' => v = some (.int r.1) ∧ μ' = r.2) 0 [(0, .ref a0), (1, .int l1)] [] μ
  obtain ⟨_, h⟩ := Sat_ifp (show Sat (f_X11_draw a0 l1 μ) (fun x => x = r) from ⟨_, hx, rfl⟩)
  refine r_aload_n dX11_draw_0 0 rfl ?_
  refine r_ldc2 (v := 1103515245) dX11_draw_1 kc_X11_452 ?_
  refine r_aload_n dX11_draw_4 0 rfl ?_
  obtain ⟨x5, e5, h⟩ := Sat_bind h
  refine r_getL fk_X11_443 rfl e5 dX11_draw_5 ?_
  refine r_lmul dX11_draw_8 ?_
  refine r_ldc2 (v := 12345) dX11_draw_9 kc_X11_454 ?_
  refine r_ladd dX11_draw_12 ?_
  refine r_ldc2 (v := 2147483648) dX11_draw_13 kc_X11_456 ?_
  refine r_lrem dX11_draw_16 (by decide) ?_
  obtain ⟨μ17, e17, h⟩ := Sat_bind h
  refine r_putL fk_X11_443 rfl rfl e17 dX11_draw_17 ?_
  refine r_aload_n dX11_draw_20 0 rfl ?_
  obtain ⟨x21, e21, h⟩ := Sat_bind h
  refine r_getL fk_X11_443 rfl e21 dX11_draw_21 ?_
  refine r_ldc2 (v := 65536) dX11_draw_24 kc_X11_458 ?_
  refine r_ldiv dX11_draw_27 (by decide) ?_
  refine r_iload_n dX11_draw_28 1 rfl ?_
  refine r_i2l dX11_draw_29 ?_
  obtain ⟨z30, h⟩ := Sat_ifn h
  refine r_lrem dX11_draw_30 z30 ?_
  refine r_l2i dX11_draw_31 ?_
  exact r_ireturn rfl (by rw [← Sat_eq h]; exact ⟨rfl, rfl⟩) dX11_draw_32
theorem dX11_dreamer_0 : decode cX11_dreamer 0 = .ok (.iconst 0, 1) := by decide +kernel
theorem dX11_dreamer_1 : decode cX11_dreamer 1 = .ok (.istore_n 2, 1) := by decide +kernel
theorem dX11_dreamer_2 : decode cX11_dreamer 2 = .ok (.iload_n 2, 1) := by decide +kernel
theorem dX11_dreamer_3 : decode cX11_dreamer 3 = .ok (.aload_n 0, 1) := by decide +kernel
theorem dX11_dreamer_4 : decode cX11_dreamer 4 = .ok (.getfield 17, 3) := by decide +kernel
theorem dX11_dreamer_7 : decode cX11_dreamer 7 = .ok (.iconst 0, 1) := by decide +kernel
theorem dX11_dreamer_8 : decode cX11_dreamer 8 = .ok (.iaload, 1) := by decide +kernel
theorem dX11_dreamer_9 : decode cX11_dreamer 9 = .ok (.if_icmp .ge 28, 3) := by decide +kernel
theorem dX11_dreamer_12 : decode cX11_dreamer 12 = .ok (.aload_n 0, 1) := by decide +kernel
theorem dX11_dreamer_13 : decode cX11_dreamer 13 = .ok (.getfield 73, 3) := by decide +kernel
theorem dX11_dreamer_16 : decode cX11_dreamer 16 = .ok (.aload_n 0, 1) := by decide +kernel
theorem dX11_dreamer_17 : decode cX11_dreamer 17 = .ok (.getfield 241, 3) := by decide +kernel
theorem dX11_dreamer_20 : decode cX11_dreamer 20 = .ok (.laload, 1) := by decide +kernel
theorem dX11_dreamer_21 : decode cX11_dreamer 21 = .ok (.iload_n 2, 1) := by decide +kernel
theorem dX11_dreamer_22 : decode cX11_dreamer 22 = .ok (.invokestatic 320, 3) := by decide +kernel
theorem dX11_dreamer_25 : decode cX11_dreamer 25 = .ok (.iload_n 1, 1) := by decide +kernel
theorem dX11_dreamer_26 : decode cX11_dreamer 26 = .ok (.if_icmp .ne 5, 3) := by decide +kernel
theorem dX11_dreamer_29 : decode cX11_dreamer 29 = .ok (.iload_n 2, 1) := by decide +kernel
theorem dX11_dreamer_30 : decode cX11_dreamer 30 = .ok (.ireturn, 1) := by decide +kernel
theorem dX11_dreamer_31 : decode cX11_dreamer 31 = .ok (.iinc 2 1, 3) := by decide +kernel
theorem dX11_dreamer_34 : decode cX11_dreamer 34 = .ok (.goto (-32), 3) := by decide +kernel
theorem dX11_dreamer_37 : decode cX11_dreamer 37 = .ok (.iconst (-1), 1) := by decide +kernel
theorem dX11_dreamer_38 : decode cX11_dreamer 38 = .ok (.ireturn, 1) := by decide +kernel
noncomputable def f_X11_dreamer_L2 (a0 : Nat) (l1 : Int32) (μ : Mm) (s2 : Int32) : Option ((Int32) ⊕ ((Int32) ⊕ (Unit))) :=
  (gf_P 12 12 a0 μ).bind fun x4 => (ga_I x4 (0 : Int32) μ).bind fun x8 => if x8 ≤ s2 then some (.inr (.inr ())) else (gf_P 12 34 a0 μ).bind fun x13 => (gf_I 12 33 a0 μ).bind fun x17 => (ga_L x13 x17 μ).bind fun x20 => (f_X11_dreamtBy x20 s2 μ).bind fun x22 => if x22 = l1 then some (.inr (.inl s2)) else (some (s2 + (1 : Int32))).bind fun v31 => some (.inl v31)
noncomputable def f_X11_dreamer (a0 : Nat) (l1 : Int32) (μ : Mm) : Option Int32 :=
  if (mm_K μ a0).1 = 12 then (whl (f_X11_dreamer_L2 a0 l1 μ) (0 : Int32)).bind (sm (fun b2 => some b2) (fun b2 => some (-1 : Int32))) else none
abbrev Rn_X11_dreamer (G : Gv) (Q : Option Value → Mm → Prop) (pc : Nat) (lv : List (Nat × Value)) (st : List Value) (μ : Mm) : Prop := Rn G RX11 cX11_dreamer 3 (some .int) "dreamer" (rmd 1 0 0) (Zm G 0 0 Q) 0 0 pc lv st μ
set_option maxRecDepth 100000 in
set_option maxHeartbeats 4000000 in
theorem m_X11_dreamer {G : Gv} (a0 : Nat) (l1 : Int32) (μ : Mm) {r : Int32} (hx : f_X11_dreamer a0 l1 μ = some r) : Mt G yX11_dreamer cX11_dreamer 3 (some .int) 1 0 0 [.ref a0, .int l1] μ (fun v μ' => v = some (.int r) ∧ μ' = μ) := by
  refine Mt.of (by decide) (Nat.le_of_ble_eq_true rfl) ?_
  show Rn_X11_dreamer G (fun v μ' => v = some (.int r) ∧ μ' = μ) 0 [(0, .ref a0), (1, .int l1)] [] μ
  obtain ⟨_, h⟩ := Sat_ifp (show Sat (f_X11_dreamer a0 l1 μ) (fun x => x = r) from ⟨_, hx, rfl⟩)
  refine r_iconst (v := 0) dX11_dreamer_0 (by decide) ?_
  refine r_istore_n (lv' := [(2, .int (0 : Int32)), (0, .ref a0), (1, .int l1)]) dX11_dreamer_1 rfl (by decide) rfl ?_
  refine r_sub (lv' := [(0, .ref a0), (1, .int l1), (2, .int (0 : Int32))]) [1, 2, 0] rfl ?_
  refine whl_K (s0 := ((0 : Int32) : Int32)) (RR := fun (s2 : Int32) => Rn_X11_dreamer G (fun v μ' => v = some (.int r) ∧ μ' = μ) 2 [(0, .ref a0), (1, .int l1), (2, .int s2)] [] μ) ?_ (Sat_bindK h)
  intro s2 K2 hI2 hX2 h
  refine r_iload_n dX11_dreamer_2 2 rfl ?_
  refine r_aload_n dX11_dreamer_3 0 rfl ?_
  obtain ⟨x4, e4, h⟩ := Sat_bind h
  refine r_getP fk_X11_17 rfl e4 dX11_dreamer_4 ?_
  refine r_iconst (v := 0) dX11_dreamer_7 (by decide) ?_
  obtain ⟨x8, e8, h⟩ := Sat_bind h
  refine r_iaload e8 dX11_dreamer_8 ?_
  refine r_icmp_ge 37 dX11_dreamer_9 (by decide) (fun c9 => ?_) (fun c9 => ?_)
  · have h := Sat_pos c9 h
    have h := hX2 _ (Sat_some h)
    refine r_iconst (v := -1) dX11_dreamer_37 (by decide) ?_
    exact r_ireturn rfl (by rw [← Sat_eq h]; exact ⟨rfl, rfl⟩) dX11_dreamer_38
  · have h := Sat_neg c9 h
    refine r_aload_n dX11_dreamer_12 0 rfl ?_
    obtain ⟨x13, e13, h⟩ := Sat_bind h
    refine r_getP fk_X11_73 rfl e13 dX11_dreamer_13 ?_
    refine r_aload_n dX11_dreamer_16 0 rfl ?_
    obtain ⟨x17, e17, h⟩ := Sat_bind h
    refine r_getI fk_X11_241 rfl e17 dX11_dreamer_17 ?_
    obtain ⟨x20, e20, h⟩ := Sat_bind h
    refine r_laload e20 dX11_dreamer_20 ?_
    refine r_iload_n dX11_dreamer_21 2 rfl ?_
    obtain ⟨x22, e22, h⟩ := Sat_bind h
    refine r_cS [.long x20, .int s2] [] (m_X11_dreamtBy x20 s2 μ e22) ck_X11_dreamtBy lk_X11_320 st_X11_dreamtBy rfl rfl (Nat.le_of_ble_eq_true rfl) ⟨by decide, by decide⟩ ⟨Nat.zero_le _, Nat.zero_le _⟩ dX11_dreamer_22 ?_
    refine r_iload_n dX11_dreamer_25 1 rfl ?_
    refine r_icmp_ne 31 dX11_dreamer_26 (by decide) (fun c26 => ?_) (fun c26 => ?_)
    · have h := Sat_neg c26 h
      obtain ⟨v31, e31, h⟩ := Sat_bind h
      refine r_iinc (j := 2) (v := v31) (lv' := [(2, .int v31), (0, .ref a0), (1, .int l1)]) dX11_dreamer_31 rfl (iinc_v e31 (by decide)) (by decide) rfl ?_
      refine r_goto 2 dX11_dreamer_34 (by decide) ?_
      exact r_sub [1, 2, 0] rfl (hI2 _ (Sat_some h))
    · have h := Sat_pos c26 h
      have h := hX2 _ (Sat_some h)
      refine r_iload_n dX11_dreamer_29 2 rfl ?_
      exact r_ireturn rfl (by rw [← Sat_eq h]; exact ⟨rfl, rfl⟩) dX11_dreamer_30
theorem dX11_dreams_0 : decode cX11_dreams 0 = .ok (.aload_n 0, 1) := by decide +kernel
theorem dX11_dreams_1 : decode cX11_dreams 1 = .ok (.iload_n 1, 1) := by decide +kernel
theorem dX11_dreams_2 : decode cX11_dreams 2 = .ok (.invokevirtual 309, 3) := by decide +kernel
theorem dX11_dreams_5 : decode cX11_dreams 5 = .ok (.ifCond .eq 19, 3) := by decide +kernel
theorem dX11_dreams_8 : decode cX11_dreams 8 = .ok (.aload_n 0, 1) := by decide +kernel
theorem dX11_dreams_9 : decode cX11_dreams 9 = .ok (.getfield 73, 3) := by decide +kernel
theorem dX11_dreams_12 : decode cX11_dreams 12 = .ok (.aload_n 0, 1) := by decide +kernel
theorem dX11_dreams_13 : decode cX11_dreams 13 = .ok (.getfield 241, 3) := by decide +kernel
theorem dX11_dreams_16 : decode cX11_dreams 16 = .ok (.laload, 1) := by decide +kernel
theorem dX11_dreams_17 : decode cX11_dreams 17 = .ok (.iload_n 1, 1) := by decide +kernel
theorem dX11_dreams_18 : decode cX11_dreams 18 = .ok (.invokestatic 320, 3) := by decide +kernel
theorem dX11_dreams_21 : decode cX11_dreams 21 = .ok (.goto 5, 3) := by decide +kernel
theorem dX11_dreams_24 : decode cX11_dreams 24 = .ok (.bipush (-2), 2) := by decide +kernel
theorem dX11_dreams_26 : decode cX11_dreams 26 = .ok (.ireturn, 1) := by decide +kernel
noncomputable def f_X11_dreams (a0 : Nat) (l1 : Int32) (μ : Mm) : Option Int32 :=
  if (mm_K μ a0).1 = 12 then (f_X11_isPerson a0 l1 μ).bind fun x2 => if x2 = 0 then some (-2 : Int32) else (gf_P 12 34 a0 μ).bind fun x9 => (gf_I 12 33 a0 μ).bind fun x13 => (ga_L x9 x13 μ).bind fun x16 => (f_X11_dreamtBy x16 l1 μ).bind fun x18 => some x18 else none
abbrev Rn_X11_dreams (G : Gv) (Q : Option Value → Mm → Prop) (pc : Nat) (lv : List (Nat × Value)) (st : List Value) (μ : Mm) : Prop := Rn G RX11 cX11_dreams 2 (some .int) "dreams" (rmd 2 0 0) (Zm G 0 0 Q) 0 0 pc lv st μ
set_option maxRecDepth 100000 in
set_option maxHeartbeats 4000000 in
theorem m_X11_dreams {G : Gv} (a0 : Nat) (l1 : Int32) (μ : Mm) {r : Int32} (hx : f_X11_dreams a0 l1 μ = some r) : Mt G yX11_dreams cX11_dreams 2 (some .int) 2 0 0 [.ref a0, .int l1] μ (fun v μ' => v = some (.int r) ∧ μ' = μ) := by
  refine Mt.of (by decide) (Nat.le_of_ble_eq_true rfl) ?_
  show Rn_X11_dreams G (fun v μ' => v = some (.int r) ∧ μ' = μ) 0 [(0, .ref a0), (1, .int l1)] [] μ
  obtain ⟨_, h⟩ := Sat_ifp (show Sat (f_X11_dreams a0 l1 μ) (fun x => x = r) from ⟨_, hx, rfl⟩)
  refine r_aload_n dX11_dreams_0 0 rfl ?_
  refine r_iload_n dX11_dreams_1 1 rfl ?_
  obtain ⟨x2, e2, h⟩ := Sat_bind h
  refine r_cV (t := 12) [.int l1] [] (m_X11_isPerson a0 l1 μ e2) ck_X11_isPerson lk_X11_309 in_X11_isPerson se_X11_isPerson (kd_of e2) ⟨rfl, by decide, by decide⟩ rfl rfl (Nat.le_of_ble_eq_true rfl) ⟨by decide, by decide⟩ ⟨Nat.zero_le _, Nat.zero_le _⟩ dX11_dreams_2 ?_
  refine r_if_eq 24 dX11_dreams_5 (by decide) (fun c5 => ?_) (fun c5 => ?_)
  · have h := Sat_pos c5 h
    refine r_bipush (v := -2) dX11_dreams_24 (by decide) ?_
    exact r_ireturn rfl (by rw [← Sat_eq h]; exact ⟨rfl, rfl⟩) dX11_dreams_26
  · have h := Sat_neg c5 h
    refine r_aload_n dX11_dreams_8 0 rfl ?_
    obtain ⟨x9, e9, h⟩ := Sat_bind h
    refine r_getP fk_X11_73 rfl e9 dX11_dreams_9 ?_
    refine r_aload_n dX11_dreams_12 0 rfl ?_
    obtain ⟨x13, e13, h⟩ := Sat_bind h
    refine r_getI fk_X11_241 rfl e13 dX11_dreams_13 ?_
    obtain ⟨x16, e16, h⟩ := Sat_bind h
    refine r_laload e16 dX11_dreams_16 ?_
    refine r_iload_n dX11_dreams_17 1 rfl ?_
    obtain ⟨x18, e18, h⟩ := Sat_bind h
    refine r_cS [.long x16, .int l1] [] (m_X11_dreamtBy x16 l1 μ e18) ck_X11_dreamtBy lk_X11_320 st_X11_dreamtBy rfl rfl (Nat.le_of_ble_eq_true rfl) ⟨by decide, by decide⟩ ⟨Nat.zero_le _, Nat.zero_le _⟩ dX11_dreams_18 ?_
    refine r_goto 26 dX11_dreams_21 (by decide) ?_
    exact r_ireturn rfl (by rw [← Sat_eq h]; exact ⟨rfl, rfl⟩) dX11_dreams_26
theorem dX11_end_0 : decode cX11_end 0 = .ok (.iload_n 1, 1) := by decide +kernel
theorem dX11_end_1 : decode cX11_end 1 = .ok (.ifCond .lt 11, 3) := by decide +kernel
theorem dX11_end_4 : decode cX11_end 4 = .ok (.iload_n 1, 1) := by decide +kernel
theorem dX11_end_5 : decode cX11_end 5 = .ok (.aload_n 0, 1) := by decide +kernel
theorem dX11_end_6 : decode cX11_end 6 = .ok (.getfield 155, 3) := by decide +kernel
theorem dX11_end_9 : decode cX11_end 9 = .ok (.if_icmp .le 5, 3) := by decide +kernel
theorem dX11_end_12 : decode cX11_end 12 = .ok (.iconst (-1), 1) := by decide +kernel
theorem dX11_end_13 : decode cX11_end 13 = .ok (.ireturn, 1) := by decide +kernel
theorem dX11_end_14 : decode cX11_end 14 = .ok (.aload_n 0, 1) := by decide +kernel
theorem dX11_end_15 : decode cX11_end 15 = .ok (.iload_n 1, 1) := by decide +kernel
theorem dX11_end_16 : decode cX11_end 16 = .ok (.putfield 155, 3) := by decide +kernel
theorem dX11_end_19 : decode cX11_end 19 = .ok (.iload_n 1, 1) := by decide +kernel
theorem dX11_end_20 : decode cX11_end 20 = .ok (.ireturn, 1) := by decide +kernel
noncomputable def f_X11_end (a0 : Nat) (l1 : Int32) (μ : Mm) : Option (Int32 × Mm) :=
  if (mm_K μ a0).1 = 12 then if l1 < 0 then some ((-1 : Int32), μ) else (gf_I 12 1 a0 μ).bind fun x6 => if l1 ≤ x6 then (pf_I 12 1 a0 l1 μ).bind fun μ16 => some (l1, μ16) else some ((-1 : Int32), μ) else none
abbrev Rn_X11_end (G : Gv) (Q : Option Value → Mm → Prop) (pc : Nat) (lv : List (Nat × Value)) (st : List Value) (μ : Mm) : Prop := Rn G RX11 cX11_end 2 (some .int) "end" (rmd 0 0 0) (Zm G 0 0 Q) 0 0 pc lv st μ
set_option maxRecDepth 100000 in
set_option maxHeartbeats 4000000 in
theorem m_X11_end {G : Gv} (a0 : Nat) (l1 : Int32) (μ : Mm) {r : (Int32 × Mm)} (hx : f_X11_end a0 l1 μ = some r) : Mt G yX11_end cX11_end 2 (some .int) 0 0 0 [.ref a0, .int l1] μ (fun v μ' => v = some (.int r.1) ∧ μ' = r.2) := by
  refine Mt.of (by decide) (Nat.le_of_ble_eq_true rfl) ?_
  show Rn_X11_end G (fun v μ' => v = some (.int r.1) ∧ μ' = r.2) 0 [(0, .ref a0), (1, .int l1)] [] μ
  obtain ⟨_, h⟩ := Sat_ifp (show Sat (f_X11_end a0 l1 μ) (fun x => x = r) from ⟨_, hx, rfl⟩)
  refine r_iload_n dX11_end_0 1 rfl ?_
  refine r_if_lt 12 dX11_end_1 (by decide) (fun c1 => ?_) (fun c1 => ?_)
  · have h := Sat_pos c1 h
    refine r_iconst (v := -1) dX11_end_12 (by decide) ?_
    exact r_ireturn rfl (by rw [← Sat_eq h]; exact ⟨rfl, rfl⟩) dX11_end_13
  · have h := Sat_neg c1 h
    refine r_iload_n dX11_end_4 1 rfl ?_
    refine r_aload_n dX11_end_5 0 rfl ?_
    obtain ⟨x6, e6, h⟩ := Sat_bind h
    refine r_getI fk_X11_155 rfl e6 dX11_end_6 ?_
    refine r_icmp_le 14 dX11_end_9 (by decide) (fun c9 => ?_) (fun c9 => ?_)
    · have h := Sat_pos c9 h
      refine r_aload_n dX11_end_14 0 rfl ?_
      refine r_iload_n dX11_end_15 1 rfl ?_
      obtain ⟨μ16, e16, h⟩ := Sat_bind h
      refine r_putI fk_X11_155 rfl rfl e16 dX11_end_16 ?_
      refine r_iload_n dX11_end_19 1 rfl ?_
      exact r_ireturn rfl (by rw [← Sat_eq h]; exact ⟨rfl, rfl⟩) dX11_end_20
    · have h := Sat_neg c9 h
      refine r_iconst (v := -1) dX11_end_12 (by decide) ?_
      exact r_ireturn rfl (by rw [← Sat_eq h]; exact ⟨rfl, rfl⟩) dX11_end_13
theorem dX11_factorial_0 : decode cX11_factorial 0 = .ok (.lconst 1, 1) := by decide +kernel
theorem dX11_factorial_1 : decode cX11_factorial 1 = .ok (.lstore_n 1, 1) := by decide +kernel
theorem dX11_factorial_2 : decode cX11_factorial 2 = .ok (.iconst 2, 1) := by decide +kernel
theorem dX11_factorial_3 : decode cX11_factorial 3 = .ok (.istore_n 3, 1) := by decide +kernel
theorem dX11_factorial_4 : decode cX11_factorial 4 = .ok (.iload_n 3, 1) := by decide +kernel
theorem dX11_factorial_5 : decode cX11_factorial 5 = .ok (.iload_n 0, 1) := by decide +kernel
theorem dX11_factorial_6 : decode cX11_factorial 6 = .ok (.if_icmp .gt 14, 3) := by decide +kernel
theorem dX11_factorial_9 : decode cX11_factorial 9 = .ok (.lload_n 1, 1) := by decide +kernel
theorem dX11_factorial_10 : decode cX11_factorial 10 = .ok (.iload_n 3, 1) := by decide +kernel
theorem dX11_factorial_11 : decode cX11_factorial 11 = .ok (.i2l, 1) := by decide +kernel
theorem dX11_factorial_12 : decode cX11_factorial 12 = .ok (.lmul, 1) := by decide +kernel
theorem dX11_factorial_13 : decode cX11_factorial 13 = .ok (.lstore_n 1, 1) := by decide +kernel
theorem dX11_factorial_14 : decode cX11_factorial 14 = .ok (.iinc 3 1, 3) := by decide +kernel
theorem dX11_factorial_17 : decode cX11_factorial 17 = .ok (.goto (-13), 3) := by decide +kernel
theorem dX11_factorial_20 : decode cX11_factorial 20 = .ok (.lload_n 1, 1) := by decide +kernel
theorem dX11_factorial_21 : decode cX11_factorial 21 = .ok (.lreturn, 1) := by decide +kernel
noncomputable def f_X11_factorial_L4 (l0 : Int32) (μ : Mm) (s4 : Int64 × Int32) : Option ((Int64 × Int32) ⊕ (Int64)) :=
  if l0 < s4.2 then some (.inr s4.1) else (some (s4.1 * s4.2.toInt64)).bind fun v13 => (some (s4.2 + (1 : Int32))).bind fun v14 => some (.inl (v13, v14))
noncomputable def f_X11_factorial (l0 : Int32) (μ : Mm) : Option Int64 :=
  (whl (f_X11_factorial_L4 l0 μ) ((1 : Int64), (2 : Int32))).bind (fun b4 => some b4)
abbrev Rn_X11_factorial (G : Gv) (Q : Option Value → Mm → Prop) (pc : Nat) (lv : List (Nat × Value)) (st : List Value) (μ : Mm) : Prop := Rn G RX11 cX11_factorial 4 (some .long) "factorial" (rmd 0 0 0) (Zm G 0 0 Q) 0 0 pc lv st μ
set_option maxRecDepth 100000 in
set_option maxHeartbeats 4000000 in
theorem m_X11_factorial {G : Gv} (l0 : Int32) (μ : Mm) {r : Int64} (hx : f_X11_factorial l0 μ = some r) : Mt G yX11_factorial cX11_factorial 4 (some .long) 0 0 0 [.int l0] μ (fun v μ' => v = some (.long r) ∧ μ' = μ) := by
  refine Mt.of (by decide) (Nat.le_of_ble_eq_true rfl) ?_
  show Rn_X11_factorial G (fun v μ' => v = some (.long r) ∧ μ' = μ) 0 [(0, .int l0)] [] μ
  have h : Sat (f_X11_factorial l0 μ) (fun x => x = r) := ⟨_, hx, rfl⟩
  refine r_lconst (v := 1) dX11_factorial_0 (by decide) ?_
  refine r_lstore_n (lv' := [(1, .long (1 : Int64)), (0, .int l0)]) dX11_factorial_1 rfl (by decide) rfl ?_
  refine r_iconst (v := 2) dX11_factorial_2 (by decide) ?_
  refine r_istore_n (lv' := [(3, .int (2 : Int32)), (1, .long (1 : Int64)), (0, .int l0)]) dX11_factorial_3 rfl (by decide) rfl ?_
  refine r_sub (lv' := [(0, .int l0), (1, .long (1 : Int64)), (3, .int (2 : Int32))]) [2, 1, 0] rfl ?_
  refine whl_K (s0 := (((1 : Int64), (2 : Int32)) : Int64 × Int32)) (RR := fun (s4 : Int64 × Int32) => Rn_X11_factorial G (fun v μ' => v = some (.long r) ∧ μ' = μ) 4 [(0, .int l0), (1, .long s4.1), (3, .int s4.2)] [] μ) ?_ (Sat_bindK h)
  intro s4 K4 hI4 hX4 h
  refine r_iload_n dX11_factorial_4 2 rfl ?_
  refine r_iload_n dX11_factorial_5 0 rfl ?_
  refine r_icmp_gt 20 dX11_factorial_6 (by decide) (fun c6 => ?_) (fun c6 => ?_)
  · have h := Sat_pos c6 h
    have h := hX4 _ (Sat_some h)
    refine r_lload_n dX11_factorial_20 1 rfl ?_
    exact r_lreturn rfl (by rw [← Sat_eq h]; exact ⟨rfl, rfl⟩) dX11_factorial_21
  · have h := Sat_neg c6 h
    refine r_lload_n dX11_factorial_9 1 rfl ?_
    refine r_iload_n dX11_factorial_10 2 rfl ?_
    refine r_i2l dX11_factorial_11 ?_
    refine r_lmul dX11_factorial_12 ?_
    obtain ⟨v13, e13, h⟩ := Sat_bind h
    refine r_topl (Option.some.inj e13) ?_
    refine r_lstore_n (lv' := [(1, .long v13), (0, .int l0), (3, .int s4.2)]) dX11_factorial_13 rfl (by decide) rfl ?_
    obtain ⟨v14, e14, h⟩ := Sat_bind h
    refine r_iinc (j := 2) (v := v14) (lv' := [(3, .int v14), (1, .long v13), (0, .int l0)]) dX11_factorial_14 rfl (iinc_v e14 (by decide)) (by decide) rfl ?_
    refine r_goto 4 dX11_factorial_17 (by decide) ?_
    exact r_sub [2, 1, 0] rfl (hI4 _ (Sat_some h))
theorem dX11_fails_0 : decode cX11_fails 0 = .ok (.aload_n 0, 1) := by decide +kernel
theorem dX11_fails_1 : decode cX11_fails 1 = .ok (.iload_n 1, 1) := by decide +kernel
theorem dX11_fails_2 : decode cX11_fails 2 = .ok (.putfield 211, 3) := by decide +kernel
theorem dX11_fails_5 : decode cX11_fails 5 = .ok (.aload_n 0, 1) := by decide +kernel
theorem dX11_fails_6 : decode cX11_fails 6 = .ok (.aload_n 0, 1) := by decide +kernel
theorem dX11_fails_7 : decode cX11_fails 7 = .ok (.getfield 180, 3) := by decide +kernel
theorem dX11_fails_10 : decode cX11_fails 10 = .ok (.putfield 13, 3) := by decide +kernel
theorem dX11_fails_13 : decode cX11_fails 13 = .ok (.iconst 0, 1) := by decide +kernel
theorem dX11_fails_14 : decode cX11_fails 14 = .ok (.ireturn, 1) := by decide +kernel
noncomputable def f_X11_fails (a0 : Nat) (l1 : Int32) (μ : Mm) : Option (Int32 × Mm) :=
  if (mm_K μ a0).1 = 12 then (pf_I 12 8 a0 l1 μ).bind fun μ2 => (gf_I 12 5 a0 μ2).bind fun x7 => (pf_I 12 9 a0 x7 μ2).bind fun μ10 => some ((0 : Int32), μ10) else none
abbrev Rn_X11_fails (G : Gv) (Q : Option Value → Mm → Prop) (pc : Nat) (lv : List (Nat × Value)) (st : List Value) (μ : Mm) : Prop := Rn G RX11 cX11_fails 2 (some .boolean) "fails" (rmd 0 0 0) (Zm G 0 0 Q) 0 0 pc lv st μ
set_option maxRecDepth 100000 in
set_option maxHeartbeats 4000000 in
theorem m_X11_fails {G : Gv} (a0 : Nat) (l1 : Int32) (μ : Mm) {r : (Int32 × Mm)} (hx : f_X11_fails a0 l1 μ = some r) : Mt G yX11_fails cX11_fails 2 (some .boolean) 0 0 0 [.ref a0, .int l1] μ (fun v μ' => v = some (.int r.1) ∧ μ' = r.2) := by
  refine Mt.of (by decide) (Nat.le_of_ble_eq_true rfl) ?_
  show Rn_X11_fails G (fun v μ' => v = some (.int r.1) ∧ μ' = r.2) 0 [(0, .ref a0), (1, .int l1)] [] μ
  obtain ⟨_, h⟩ := Sat_ifp (show Sat (f_X11_fails a0 l1 μ) (fun x => x = r) from ⟨_, hx, rfl⟩)
  refine r_aload_n dX11_fails_0 0 rfl ?_
  refine r_iload_n dX11_fails_1 1 rfl ?_
  obtain ⟨μ2, e2, h⟩ := Sat_bind h
  refine r_putI fk_X11_211 rfl rfl e2 dX11_fails_2 ?_
  refine r_aload_n dX11_fails_5 0 rfl ?_
  refine r_aload_n dX11_fails_6 0 rfl ?_
  obtain ⟨x7, e7, h⟩ := Sat_bind h
  refine r_getI fk_X11_180 rfl e7 dX11_fails_7 ?_
  obtain ⟨μ10, e10, h⟩ := Sat_bind h
  refine r_putI fk_X11_13 rfl rfl e10 dX11_fails_10 ?_
  refine r_iconst (v := 0) dX11_fails_13 (by decide) ?_
  exact r_zreturn rfl (by decide) (by rw [← Sat_eq h]; exact ⟨rfl, rfl⟩) dX11_fails_14
theorem dX11_fault_0 : decode cX11_fault 0 = .ok (.iload_n 1, 1) := by decide +kernel
theorem dX11_fault_1 : decode cX11_fault 1 = .ok (.ifCond .ne 10, 3) := by decide +kernel
theorem dX11_fault_4 : decode cX11_fault 4 = .ok (.aload_n 0, 1) := by decide +kernel
theorem dX11_fault_5 : decode cX11_fault 5 = .ok (.getfield 211, 3) := by decide +kernel
theorem dX11_fault_8 : decode cX11_fault 8 = .ok (.goto 16, 3) := by decide +kernel
theorem dX11_fault_11 : decode cX11_fault 11 = .ok (.iload_n 1, 1) := by decide +kernel
theorem dX11_fault_12 : decode cX11_fault 12 = .ok (.iconst 1, 1) := by decide +kernel
theorem dX11_fault_13 : decode cX11_fault 13 = .ok (.if_icmp .ne 10, 3) := by decide +kernel
theorem dX11_fault_16 : decode cX11_fault 16 = .ok (.aload_n 0, 1) := by decide +kernel
theorem dX11_fault_17 : decode cX11_fault 17 = .ok (.getfield 13, 3) := by decide +kernel
theorem dX11_fault_20 : decode cX11_fault 20 = .ok (.goto 4, 3) := by decide +kernel
theorem dX11_fault_23 : decode cX11_fault 23 = .ok (.iconst (-1), 1) := by decide +kernel
theorem dX11_fault_24 : decode cX11_fault 24 = .ok (.ireturn, 1) := by decide +kernel
noncomputable def f_X11_fault (a0 : Nat) (l1 : Int32) (μ : Mm) : Option Int32 :=
  if (mm_K μ a0).1 = 12 then if l1 = 0 then (gf_I 12 8 a0 μ).bind fun x5 => some x5 else if l1 = (1 : Int32) then (gf_I 12 9 a0 μ).bind fun x17 => some x17 else some (-1 : Int32) else none
abbrev Rn_X11_fault (G : Gv) (Q : Option Value → Mm → Prop) (pc : Nat) (lv : List (Nat × Value)) (st : List Value) (μ : Mm) : Prop := Rn G RX11 cX11_fault 2 (some .int) "fault" (rmd 0 0 0) (Zm G 0 0 Q) 0 0 pc lv st μ
set_option maxRecDepth 100000 in
set_option maxHeartbeats 4000000 in
theorem m_X11_fault {G : Gv} (a0 : Nat) (l1 : Int32) (μ : Mm) {r : Int32} (hx : f_X11_fault a0 l1 μ = some r) : Mt G yX11_fault cX11_fault 2 (some .int) 0 0 0 [.ref a0, .int l1] μ (fun v μ' => v = some (.int r) ∧ μ' = μ) := by
  refine Mt.of (by decide) (Nat.le_of_ble_eq_true rfl) ?_
  show Rn_X11_fault G (fun v μ' => v = some (.int r) ∧ μ' = μ) 0 [(0, .ref a0), (1, .int l1)] [] μ
  obtain ⟨_, h⟩ := Sat_ifp (show Sat (f_X11_fault a0 l1 μ) (fun x => x = r) from ⟨_, hx, rfl⟩)
  refine r_iload_n dX11_fault_0 1 rfl ?_
  refine r_if_ne 11 dX11_fault_1 (by decide) (fun c1 => ?_) (fun c1 => ?_)
  · have h := Sat_neg c1 h
    refine r_iload_n dX11_fault_11 1 rfl ?_
    refine r_iconst (v := 1) dX11_fault_12 (by decide) ?_
    refine r_icmp_ne 23 dX11_fault_13 (by decide) (fun c13 => ?_) (fun c13 => ?_)
    · have h := Sat_neg c13 h
      refine r_iconst (v := -1) dX11_fault_23 (by decide) ?_
      exact r_ireturn rfl (by rw [← Sat_eq h]; exact ⟨rfl, rfl⟩) dX11_fault_24
    · have h := Sat_pos c13 h
      refine r_aload_n dX11_fault_16 0 rfl ?_
      obtain ⟨x17, e17, h⟩ := Sat_bind h
      refine r_getI fk_X11_13 rfl e17 dX11_fault_17 ?_
      refine r_goto 24 dX11_fault_20 (by decide) ?_
      exact r_ireturn rfl (by rw [← Sat_eq h]; exact ⟨rfl, rfl⟩) dX11_fault_24
  · have h := Sat_pos c1 h
    refine r_aload_n dX11_fault_4 0 rfl ?_
    obtain ⟨x5, e5, h⟩ := Sat_bind h
    refine r_getI fk_X11_211 rfl e5 dX11_fault_5 ?_
    refine r_goto 24 dX11_fault_8 (by decide) ?_
    exact r_ireturn rfl (by rw [← Sat_eq h]; exact ⟨rfl, rfl⟩) dX11_fault_24
theorem dX11_feed_0 : decode cX11_feed 0 = .ok (.aload_n 0, 1) := by decide +kernel
theorem dX11_feed_1 : decode cX11_feed 1 = .ok (.getfield 155, 3) := by decide +kernel
theorem dX11_feed_4 : decode cX11_feed 4 = .ok (.bipush 20, 2) := by decide +kernel
theorem dX11_feed_6 : decode cX11_feed 6 = .ok (.iadd, 1) := by decide +kernel
theorem dX11_feed_7 : decode cX11_feed 7 = .ok (.sipush 900, 3) := by decide +kernel
theorem dX11_feed_10 : decode cX11_feed 10 = .ok (.if_icmp .le 6, 3) := by decide +kernel
theorem dX11_feed_13 : decode cX11_feed 13 = .ok (.bipush (-3), 2) := by decide +kernel
theorem dX11_feed_15 : decode cX11_feed 15 = .ok (.ireturn, 1) := by decide +kernel
theorem dX11_feed_16 : decode cX11_feed 16 = .ok (.iconst 0, 1) := by decide +kernel
theorem dX11_feed_17 : decode cX11_feed 17 = .ok (.istore 6, 2) := by decide +kernel
theorem dX11_feed_19 : decode cX11_feed 19 = .ok (.iload 6, 2) := by decide +kernel
theorem dX11_feed_21 : decode cX11_feed 21 = .ok (.iconst 5, 1) := by decide +kernel
theorem dX11_feed_22 : decode cX11_feed 22 = .ok (.if_icmp .ge 93, 3) := by decide +kernel
theorem dX11_feed_25 : decode cX11_feed 25 = .ok (.iload 6, 2) := by decide +kernel
theorem dX11_feed_27 : decode cX11_feed 27 = .ok (.ifCond .ne 7, 3) := by decide +kernel
theorem dX11_feed_30 : decode cX11_feed 30 = .ok (.iload_n 1, 1) := by decide +kernel
theorem dX11_feed_31 : decode cX11_feed 31 = .ok (.goto 36, 3) := by decide +kernel
theorem dX11_feed_34 : decode cX11_feed 34 = .ok (.iload 6, 2) := by decide +kernel
theorem dX11_feed_36 : decode cX11_feed 36 = .ok (.iconst 1, 1) := by decide +kernel
theorem dX11_feed_37 : decode cX11_feed 37 = .ok (.if_icmp .ne 7, 3) := by decide +kernel
theorem dX11_feed_40 : decode cX11_feed 40 = .ok (.iload_n 2, 1) := by decide +kernel
theorem dX11_feed_41 : decode cX11_feed 41 = .ok (.goto 26, 3) := by decide +kernel
theorem dX11_feed_44 : decode cX11_feed 44 = .ok (.iload 6, 2) := by decide +kernel
theorem dX11_feed_46 : decode cX11_feed 46 = .ok (.iconst 2, 1) := by decide +kernel
theorem dX11_feed_47 : decode cX11_feed 47 = .ok (.if_icmp .ne 7, 3) := by decide +kernel
theorem dX11_feed_50 : decode cX11_feed 50 = .ok (.iload_n 3, 1) := by decide +kernel
theorem dX11_feed_51 : decode cX11_feed 51 = .ok (.goto 16, 3) := by decide +kernel
theorem dX11_feed_54 : decode cX11_feed 54 = .ok (.iload 6, 2) := by decide +kernel
theorem dX11_feed_56 : decode cX11_feed 56 = .ok (.iconst 3, 1) := by decide +kernel
theorem dX11_feed_57 : decode cX11_feed 57 = .ok (.if_icmp .ne 8, 3) := by decide +kernel
theorem dX11_feed_60 : decode cX11_feed 60 = .ok (.iload 4, 2) := by decide +kernel
theorem dX11_feed_62 : decode cX11_feed 62 = .ok (.goto 5, 3) := by decide +kernel
theorem dX11_feed_65 : decode cX11_feed 65 = .ok (.iload 5, 2) := by decide +kernel
theorem dX11_feed_67 : decode cX11_feed 67 = .ok (.istore 7, 2) := by decide +kernel
theorem dX11_feed_69 : decode cX11_feed 69 = .ok (.bipush 24, 2) := by decide +kernel
theorem dX11_feed_71 : decode cX11_feed 71 = .ok (.istore 8, 2) := by decide +kernel
theorem dX11_feed_73 : decode cX11_feed 73 = .ok (.iload 8, 2) := by decide +kernel
theorem dX11_feed_75 : decode cX11_feed 75 = .ok (.ifCond .lt 34, 3) := by decide +kernel
theorem dX11_feed_78 : decode cX11_feed 78 = .ok (.aload_n 0, 1) := by decide +kernel
theorem dX11_feed_79 : decode cX11_feed 79 = .ok (.getfield 7, 3) := by decide +kernel
theorem dX11_feed_82 : decode cX11_feed 82 = .ok (.aload_n 0, 1) := by decide +kernel
theorem dX11_feed_83 : decode cX11_feed 83 = .ok (.getfield 155, 3) := by decide +kernel
theorem dX11_feed_86 : decode cX11_feed 86 = .ok (.iload 7, 2) := by decide +kernel
theorem dX11_feed_88 : decode cX11_feed 88 = .ok (.iload 8, 2) := by decide +kernel
theorem dX11_feed_90 : decode cX11_feed 90 = .ok (.ishr, 1) := by decide +kernel
theorem dX11_feed_91 : decode cX11_feed 91 = .ok (.i2b, 1) := by decide +kernel
theorem dX11_feed_92 : decode cX11_feed 92 = .ok (.bastore, 1) := by decide +kernel
theorem dX11_feed_93 : decode cX11_feed 93 = .ok (.aload_n 0, 1) := by decide +kernel
theorem dX11_feed_94 : decode cX11_feed 94 = .ok (.dup, 1) := by decide +kernel
theorem dX11_feed_95 : decode cX11_feed 95 = .ok (.getfield 155, 3) := by decide +kernel
theorem dX11_feed_98 : decode cX11_feed 98 = .ok (.iconst 1, 1) := by decide +kernel
theorem dX11_feed_99 : decode cX11_feed 99 = .ok (.iadd, 1) := by decide +kernel
theorem dX11_feed_100 : decode cX11_feed 100 = .ok (.putfield 155, 3) := by decide +kernel
theorem dX11_feed_103 : decode cX11_feed 103 = .ok (.iinc 8 (-8), 3) := by decide +kernel
theorem dX11_feed_106 : decode cX11_feed 106 = .ok (.goto (-33), 3) := by decide +kernel
theorem dX11_feed_109 : decode cX11_feed 109 = .ok (.iinc 6 1, 3) := by decide +kernel
theorem dX11_feed_112 : decode cX11_feed 112 = .ok (.goto (-93), 3) := by decide +kernel
theorem dX11_feed_115 : decode cX11_feed 115 = .ok (.aload_n 0, 1) := by decide +kernel
theorem dX11_feed_116 : decode cX11_feed 116 = .ok (.getfield 155, 3) := by decide +kernel
theorem dX11_feed_119 : decode cX11_feed 119 = .ok (.ireturn, 1) := by decide +kernel
noncomputable def f_X11_feed_J115 (a0 : Nat) (μ : Mm) : Option (Int32 × Mm) :=
  (gf_I 12 1 a0 μ).bind fun x116 => some (x116, μ)
noncomputable def f_X11_feed_J109 (a0 : Nat) (l1 : Int32) (l2 : Int32) (l3 : Int32) (l4 : Int32) (l5 : Int32) (l6 : Int32) (μ : Mm) : Option ((Int32 × Mm) ⊕ (Mm)) :=
  (some (l6 + (1 : Int32))).bind fun v109 => some (.inl (v109, μ))
noncomputable def f_X11_feed_L73 (a0 : Nat) (l1 : Int32) (l2 : Int32) (l3 : Int32) (l4 : Int32) (l5 : Int32) (l6 : Int32) (l7 : Int32) (s73 : Int32 × Mm) : Option ((Int32 × Mm) ⊕ (Mm)) :=
  if s73.1 < 0 then some (.inr s73.2) else (gf_P 12 0 a0 s73.2).bind fun x79 => (gf_I 12 1 a0 s73.2).bind fun x83 => (pa_B x79 x83 ((l7 >>> (s73.1 &&& 31)).toInt8.toInt32) s73.2).bind fun μ92 => (gf_I 12 1 a0 μ92).bind fun x95 => (pf_I 12 1 a0 (x95 + (1 : Int32)) μ92).bind fun μ100 => (some (s73.1 + (-8 : Int32))).bind fun v103 => some (.inl (v103, μ100))
noncomputable def f_X11_feed_J67 (a0 : Nat) (l1 : Int32) (l2 : Int32) (l3 : Int32) (l4 : Int32) (l5 : Int32) (l6 : Int32) (k0 : Int32) (μ : Mm) : Option ((Int32 × Mm) ⊕ (Mm)) :=
  (whl (f_X11_feed_L73 a0 l1 l2 l3 l4 l5 l6 k0) ((24 : Int32), μ)).bind (fun b73 => f_X11_feed_J109 a0 l1 l2 l3 l4 l5 l6 b73)
noncomputable def f_X11_feed_L19 (a0 : Nat) (l1 : Int32) (l2 : Int32) (l3 : Int32) (l4 : Int32) (l5 : Int32) (s19 : Int32 × Mm) : Option ((Int32 × Mm) ⊕ (Mm)) :=
  if (5 : Int32) ≤ s19.1 then some (.inr s19.2) else if s19.1 = 0 then f_X11_feed_J67 a0 l1 l2 l3 l4 l5 s19.1 l1 s19.2 else if s19.1 = (1 : Int32) then f_X11_feed_J67 a0 l1 l2 l3 l4 l5 s19.1 l2 s19.2 else if s19.1 = (2 : Int32) then f_X11_feed_J67 a0 l1 l2 l3 l4 l5 s19.1 l3 s19.2 else if s19.1 = (3 : Int32) then f_X11_feed_J67 a0 l1 l2 l3 l4 l5 s19.1 l4 s19.2 else f_X11_feed_J67 a0 l1 l2 l3 l4 l5 s19.1 l5 s19.2
noncomputable def f_X11_feed (a0 : Nat) (l1 : Int32) (l2 : Int32) (l3 : Int32) (l4 : Int32) (l5 : Int32) (μ : Mm) : Option (Int32 × Mm) :=
  if (mm_K μ a0).1 = 12 then (gf_I 12 1 a0 μ).bind fun x1 => if (x1 + (20 : Int32)) ≤ (900 : Int32) then (whl (f_X11_feed_L19 a0 l1 l2 l3 l4 l5) ((0 : Int32), μ)).bind (fun b19 => f_X11_feed_J115 a0 b19) else some ((-3 : Int32), μ) else none
abbrev Rn_X11_feed (G : Gv) (Q : Option Value → Mm → Prop) (pc : Nat) (lv : List (Nat × Value)) (st : List Value) (μ : Mm) : Prop := Rn G RX11 cX11_feed 9 (some .int) "feed" (rmd 0 0 0) (Zm G 0 0 Q) 0 0 pc lv st μ
set_option maxRecDepth 100000 in
set_option maxHeartbeats 4000000 in
theorem m_X11_feed {G : Gv} (a0 : Nat) (l1 : Int32) (l2 : Int32) (l3 : Int32) (l4 : Int32) (l5 : Int32) (μ : Mm) {r : (Int32 × Mm)} (hx : f_X11_feed a0 l1 l2 l3 l4 l5 μ = some r) : Mt G yX11_feed cX11_feed 9 (some .int) 0 0 0 [.ref a0, .int l1, .int l2, .int l3, .int l4, .int l5] μ (fun v μ' => v = some (.int r.1) ∧ μ' = r.2) := by
  refine Mt.of (by decide) (Nat.le_of_ble_eq_true rfl) ?_
  show Rn_X11_feed G (fun v μ' => v = some (.int r.1) ∧ μ' = r.2) 0 [(0, .ref a0), (1, .int l1), (2, .int l2), (3, .int l3), (4, .int l4), (5, .int l5)] [] μ
  obtain ⟨_, h⟩ := Sat_ifp (show Sat (f_X11_feed a0 l1 l2 l3 l4 l5 μ) (fun x => x = r) from ⟨_, hx, rfl⟩)
  have J115 : ∀ (a0_115 : Nat) (μ_115 : Mm), Sat (f_X11_feed_J115 a0_115 μ_115) (fun x => x = r) → Rn_X11_feed G (fun v μ' => v = some (.int r.1) ∧ μ' = r.2) 115 [(0, .ref a0_115)] [] μ_115 := by
    intro a0_115 μ_115 h
    refine r_aload_n dX11_feed_115 0 rfl ?_
    obtain ⟨x116, e116, h⟩ := Sat_bind h
    refine r_getI fk_X11_155 rfl e116 dX11_feed_116 ?_
    exact r_ireturn rfl (by rw [← Sat_eq h]; exact ⟨rfl, rfl⟩) dX11_feed_119
  refine r_aload_n dX11_feed_0 0 rfl ?_
  obtain ⟨x1, e1, h⟩ := Sat_bind h
  refine r_getI fk_X11_155 rfl e1 dX11_feed_1 ?_
  refine r_bipush (v := 20) dX11_feed_4 (by decide) ?_
  refine r_iadd dX11_feed_6 ?_
  refine r_sipush (v := 900) dX11_feed_7 (by decide) ?_
  refine r_icmp_le 16 dX11_feed_10 (by decide) (fun c10 => ?_) (fun c10 => ?_)
  · have h := Sat_pos c10 h
    refine r_iconst (v := 0) dX11_feed_16 (by decide) ?_
    refine r_istore (lv' := [(6, .int (0 : Int32)), (0, .ref a0), (1, .int l1), (2, .int l2), (3, .int l3), (4, .int l4), (5, .int l5)]) dX11_feed_17 (by decide) rfl ?_
    refine r_sub (lv' := [(0, .ref a0), (1, .int l1), (2, .int l2), (3, .int l3), (4, .int l4), (5, .int l5), (6, .int (0 : Int32))]) [1, 2, 3, 4, 5, 6, 0] rfl ?_
    refine whl_K (s0 := (((0 : Int32), μ) : Int32 × Mm)) (RR := fun (s19 : Int32 × Mm) => Rn_X11_feed G (fun v μ' => v = some (.int r.1) ∧ μ' = r.2) 19 [(0, .ref a0), (1, .int l1), (2, .int l2), (3, .int l3), (4, .int l4), (5, .int l5), (6, .int s19.1)] [] s19.2) ?_ (Sat_bindK h)
    intro s19 K19 hI19 hX19 h
    have J109 : ∀ (l6_109 : Int32) (μ_109 : Mm), Sat (f_X11_feed_J109 a0 l1 l2 l3 l4 l5 l6_109 μ_109) K19 → Rn_X11_feed G (fun v μ' => v = some (.int r.1) ∧ μ' = r.2) 109 [(0, .ref a0), (1, .int l1), (2, .int l2), (3, .int l3), (4, .int l4), (5, .int l5), (6, .int l6_109)] [] μ_109 := by
      intro l6_109 μ_109 h
      obtain ⟨v109, e109, h⟩ := Sat_bind h
      refine r_iinc (j := 6) (v := v109) (lv' := [(6, .int v109), (0, .ref a0), (1, .int l1), (2, .int l2), (3, .int l3), (4, .int l4), (5, .int l5)]) dX11_feed_109 rfl (iinc_v e109 (by decide)) (by decide) rfl ?_
      refine r_goto 19 dX11_feed_112 (by decide) ?_
      exact r_sub [1, 2, 3, 4, 5, 6, 0] rfl (hI19 _ (Sat_some h))
    have J67 : ∀ (l6_67 : Int32) (k0_67 : Int32) (μ_67 : Mm), Sat (f_X11_feed_J67 a0 l1 l2 l3 l4 l5 l6_67 k0_67 μ_67) K19 → Rn_X11_feed G (fun v μ' => v = some (.int r.1) ∧ μ' = r.2) 67 [(0, .ref a0), (1, .int l1), (2, .int l2), (3, .int l3), (4, .int l4), (5, .int l5), (6, .int l6_67)] [.int k0_67] μ_67 := by
      intro l6_67 k0_67 μ_67 h
      refine r_istore (lv' := [(7, .int k0_67), (0, .ref a0), (1, .int l1), (2, .int l2), (3, .int l3), (4, .int l4), (5, .int l5), (6, .int l6_67)]) dX11_feed_67 (by decide) rfl ?_
      refine r_bipush (v := 24) dX11_feed_69 (by decide) ?_
      refine r_istore (lv' := [(8, .int (24 : Int32)), (7, .int k0_67), (0, .ref a0), (1, .int l1), (2, .int l2), (3, .int l3), (4, .int l4), (5, .int l5), (6, .int l6_67)]) dX11_feed_71 (by decide) rfl ?_
      refine r_sub (lv' := [(0, .ref a0), (1, .int l1), (2, .int l2), (3, .int l3), (4, .int l4), (5, .int l5), (6, .int l6_67), (7, .int k0_67), (8, .int (24 : Int32))]) [2, 3, 4, 5, 6, 7, 8, 1, 0] rfl ?_
      refine whl_K (s0 := (((24 : Int32), μ_67) : Int32 × Mm)) (RR := fun (s73 : Int32 × Mm) => Rn_X11_feed G (fun v μ' => v = some (.int r.1) ∧ μ' = r.2) 73 [(0, .ref a0), (1, .int l1), (2, .int l2), (3, .int l3), (4, .int l4), (5, .int l5), (6, .int l6_67), (7, .int k0_67), (8, .int s73.1)] [] s73.2) ?_ (Sat_bindK h)
      intro s73 K73 hI73 hX73 h
      refine r_iload dX11_feed_73 8 rfl ?_
      refine r_if_lt 109 dX11_feed_75 (by decide) (fun c75 => ?_) (fun c75 => ?_)
      · have h := Sat_pos c75 h
        have h := hX73 _ (Sat_some h)
        exact r_sub [0, 1, 2, 3, 4, 5, 6] rfl (J109 l6_67 s73.2 h)
      · have h := Sat_neg c75 h
        refine r_aload_n dX11_feed_78 0 rfl ?_
        obtain ⟨x79, e79, h⟩ := Sat_bind h
        refine r_getP fk_X11_7 rfl e79 dX11_feed_79 ?_
        refine r_aload_n dX11_feed_82 0 rfl ?_
        obtain ⟨x83, e83, h⟩ := Sat_bind h
        refine r_getI fk_X11_155 rfl e83 dX11_feed_83 ?_
        refine r_iload dX11_feed_86 7 rfl ?_
        refine r_iload dX11_feed_88 8 rfl ?_
        refine r_ishr dX11_feed_90 ?_
        refine r_i2b dX11_feed_91 ?_
        obtain ⟨μ92, e92, h⟩ := Sat_bind h
        refine r_bastore e92 dX11_feed_92 ?_
        refine r_aload_n dX11_feed_93 0 rfl ?_
        refine r_dup dX11_feed_94 rfl ?_
        obtain ⟨x95, e95, h⟩ := Sat_bind h
        refine r_getI fk_X11_155 rfl e95 dX11_feed_95 ?_
        refine r_iconst (v := 1) dX11_feed_98 (by decide) ?_
        refine r_iadd dX11_feed_99 ?_
        obtain ⟨μ100, e100, h⟩ := Sat_bind h
        refine r_putI fk_X11_155 rfl rfl e100 dX11_feed_100 ?_
        obtain ⟨v103, e103, h⟩ := Sat_bind h
        refine r_iinc (j := 8) (v := v103) (lv' := [(8, .int v103), (0, .ref a0), (1, .int l1), (2, .int l2), (3, .int l3), (4, .int l4), (5, .int l5), (6, .int l6_67), (7, .int k0_67)]) dX11_feed_103 rfl (iinc_v e103 (by decide)) (by decide) rfl ?_
        refine r_goto 73 dX11_feed_106 (by decide) ?_
        exact r_sub [1, 2, 3, 4, 5, 6, 7, 8, 0] rfl (hI73 _ (Sat_some h))
    refine r_iload dX11_feed_19 6 rfl ?_
    refine r_iconst (v := 5) dX11_feed_21 (by decide) ?_
    refine r_icmp_ge 115 dX11_feed_22 (by decide) (fun c22 => ?_) (fun c22 => ?_)
    · have h := Sat_pos c22 h
      have h := hX19 _ (Sat_some h)
      exact r_sub [0] rfl (J115 a0 s19.2 h)
    · have h := Sat_neg c22 h
      refine r_iload dX11_feed_25 6 rfl ?_
      refine r_if_ne 34 dX11_feed_27 (by decide) (fun c27 => ?_) (fun c27 => ?_)
      · have h := Sat_neg c27 h
        refine r_iload dX11_feed_34 6 rfl ?_
        refine r_iconst (v := 1) dX11_feed_36 (by decide) ?_
        refine r_icmp_ne 44 dX11_feed_37 (by decide) (fun c37 => ?_) (fun c37 => ?_)
        · have h := Sat_neg c37 h
          refine r_iload dX11_feed_44 6 rfl ?_
          refine r_iconst (v := 2) dX11_feed_46 (by decide) ?_
          refine r_icmp_ne 54 dX11_feed_47 (by decide) (fun c47 => ?_) (fun c47 => ?_)
          · have h := Sat_neg c47 h
            refine r_iload dX11_feed_54 6 rfl ?_
            refine r_iconst (v := 3) dX11_feed_56 (by decide) ?_
            refine r_icmp_ne 65 dX11_feed_57 (by decide) (fun c57 => ?_) (fun c57 => ?_)
            · have h := Sat_neg c57 h
              refine r_iload dX11_feed_65 5 rfl ?_
              exact r_sub [0, 1, 2, 3, 4, 5, 6] rfl (J67 s19.1 l5 s19.2 h)
            · have h := Sat_pos c57 h
              refine r_iload dX11_feed_60 4 rfl ?_
              refine r_goto 67 dX11_feed_62 (by decide) ?_
              exact r_sub [0, 1, 2, 3, 4, 5, 6] rfl (J67 s19.1 l4 s19.2 h)
          · have h := Sat_pos c47 h
            refine r_iload_n dX11_feed_50 3 rfl ?_
            refine r_goto 67 dX11_feed_51 (by decide) ?_
            exact r_sub [0, 1, 2, 3, 4, 5, 6] rfl (J67 s19.1 l3 s19.2 h)
        · have h := Sat_pos c37 h
          refine r_iload_n dX11_feed_40 2 rfl ?_
          refine r_goto 67 dX11_feed_41 (by decide) ?_
          exact r_sub [0, 1, 2, 3, 4, 5, 6] rfl (J67 s19.1 l2 s19.2 h)
      · have h := Sat_pos c27 h
        refine r_iload_n dX11_feed_30 1 rfl ?_
        refine r_goto 67 dX11_feed_31 (by decide) ?_
        exact r_sub [0, 1, 2, 3, 4, 5, 6] rfl (J67 s19.1 l1 s19.2 h)
  · have h := Sat_neg c10 h
    refine r_bipush (v := -3) dX11_feed_13 (by decide) ?_
    exact r_ireturn rfl (by rw [← Sat_eq h]; exact ⟨rfl, rfl⟩) dX11_feed_15
theorem dX11_isStep_0 : decode cX11_isStep 0 = .ok (.iload_n 0, 1) := by decide +kernel
theorem dX11_isStep_1 : decode cX11_isStep 1 = .ok (.iconst 0, 1) := by decide +kernel
theorem dX11_isStep_2 : decode cX11_isStep 2 = .ok (.sipush 999, 3) := by decide +kernel
theorem dX11_isStep_5 : decode cX11_isStep 5 = .ok (.invokestatic 217, 3) := by decide +kernel
theorem dX11_isStep_8 : decode cX11_isStep 8 = .ok (.ireturn, 1) := by decide +kernel
noncomputable def f_X11_isStep (l0 : Int32) (μ : Mm) : Option Int32 :=
  (f_X11_in l0 (0 : Int32) (999 : Int32) μ).bind fun x5 => if x5 = 0 ∨ x5 = 1 then some x5 else none
abbrev Rn_X11_isStep (G : Gv) (Q : Option Value → Mm → Prop) (pc : Nat) (lv : List (Nat × Value)) (st : List Value) (μ : Mm) : Prop := Rn G RX11 cX11_isStep 1 (some .boolean) "isStep" (rmd 1 0 0) (Zm G 0 0 Q) 0 0 pc lv st μ
set_option maxRecDepth 100000 in
set_option maxHeartbeats 4000000 in
theorem m_X11_isStep {G : Gv} (l0 : Int32) (μ : Mm) {r : Int32} (hx : f_X11_isStep l0 μ = some r) : Mt G yX11_isStep cX11_isStep 1 (some .boolean) 1 0 0 [.int l0] μ (fun v μ' => v = some (.int r) ∧ μ' = μ) := by
  refine Mt.of (by decide) (Nat.le_of_ble_eq_true rfl) ?_
  show Rn_X11_isStep G (fun v μ' => v = some (.int r) ∧ μ' = μ) 0 [(0, .int l0)] [] μ
  have h : Sat (f_X11_isStep l0 μ) (fun x => x = r) := ⟨_, hx, rfl⟩
  refine r_iload_n dX11_isStep_0 0 rfl ?_
  refine r_iconst (v := 0) dX11_isStep_1 (by decide) ?_
  refine r_sipush (v := 999) dX11_isStep_2 (by decide) ?_
  obtain ⟨x5, e5, h⟩ := Sat_bind h
  refine r_cS [.int l0, .int (0 : Int32), .int (999 : Int32)] [] (m_X11_in l0 (0 : Int32) (999 : Int32) μ e5) ck_X11_in lk_X11_217 st_X11_in rfl rfl (Nat.le_of_ble_eq_true rfl) ⟨by decide, by decide⟩ ⟨Nat.zero_le _, Nat.zero_le _⟩ dX11_isStep_5 ?_
  obtain ⟨hz, h⟩ := Sat_ifp h
  exact r_zreturn rfl hz (by rw [← Sat_eq h]; exact ⟨rfl, rfl⟩) dX11_isStep_8
theorem dX11_fit_0 : decode cX11_fit 0 = .ok (.iload_n 1, 1) := by decide +kernel
theorem dX11_fit_1 : decode cX11_fit 1 = .ok (.invokestatic 389, 3) := by decide +kernel
theorem dX11_fit_4 : decode cX11_fit 4 = .ok (.ifCond .eq 12, 3) := by decide +kernel
theorem dX11_fit_7 : decode cX11_fit 7 = .ok (.iload_n 2, 1) := by decide +kernel
theorem dX11_fit_8 : decode cX11_fit 8 = .ok (.iconst 0, 1) := by decide +kernel
theorem dX11_fit_9 : decode cX11_fit 9 = .ok (.iconst 2, 1) := by decide +kernel
theorem dX11_fit_10 : decode cX11_fit 10 = .ok (.invokestatic 217, 3) := by decide +kernel
theorem dX11_fit_13 : decode cX11_fit 13 = .ok (.ifCond .ne 6, 3) := by decide +kernel
theorem dX11_fit_16 : decode cX11_fit 16 = .ok (.bipush (-2), 2) := by decide +kernel
theorem dX11_fit_18 : decode cX11_fit 18 = .ok (.ireturn, 1) := by decide +kernel
theorem dX11_fit_19 : decode cX11_fit 19 = .ok (.aload_n 0, 1) := by decide +kernel
theorem dX11_fit_20 : decode cX11_fit 20 = .ok (.iload_n 1, 1) := by decide +kernel
theorem dX11_fit_21 : decode cX11_fit 21 = .ok (.invokevirtual 392, 3) := by decide +kernel
theorem dX11_fit_24 : decode cX11_fit 24 = .ok (.istore_n 3, 1) := by decide +kernel
theorem dX11_fit_25 : decode cX11_fit 25 = .ok (.iload_n 2, 1) := by decide +kernel
theorem dX11_fit_26 : decode cX11_fit 26 = .ok (.ifCond .ne 5, 3) := by decide +kernel
theorem dX11_fit_29 : decode cX11_fit 29 = .ok (.iload_n 3, 1) := by decide +kernel
theorem dX11_fit_30 : decode cX11_fit 30 = .ok (.ireturn, 1) := by decide +kernel
theorem dX11_fit_31 : decode cX11_fit 31 = .ok (.iconst (-1), 1) := by decide +kernel
theorem dX11_fit_32 : decode cX11_fit 32 = .ok (.istore 4, 2) := by decide +kernel
theorem dX11_fit_34 : decode cX11_fit 34 = .ok (.iconst 0, 1) := by decide +kernel
theorem dX11_fit_35 : decode cX11_fit 35 = .ok (.istore 5, 2) := by decide +kernel
theorem dX11_fit_37 : decode cX11_fit 37 = .ok (.iload 5, 2) := by decide +kernel
theorem dX11_fit_39 : decode cX11_fit 39 = .ok (.aload_n 0, 1) := by decide +kernel
theorem dX11_fit_40 : decode cX11_fit 40 = .ok (.getfield 234, 3) := by decide +kernel
theorem dX11_fit_43 : decode cX11_fit 43 = .ok (.if_icmp .ge 33, 3) := by decide +kernel
theorem dX11_fit_46 : decode cX11_fit 46 = .ok (.aload_n 0, 1) := by decide +kernel
theorem dX11_fit_47 : decode cX11_fit 47 = .ok (.iload 5, 2) := by decide +kernel
theorem dX11_fit_49 : decode cX11_fit 49 = .ok (.invokevirtual 395, 3) := by decide +kernel
theorem dX11_fit_52 : decode cX11_fit 52 = .ok (.ifCond .eq 18, 3) := by decide +kernel
theorem dX11_fit_55 : decode cX11_fit 55 = .ok (.iload_n 2, 1) := by decide +kernel
theorem dX11_fit_56 : decode cX11_fit 56 = .ok (.iconst 2, 1) := by decide +kernel
theorem dX11_fit_57 : decode cX11_fit 57 = .ok (.if_icmp .eq 9, 3) := by decide +kernel
theorem dX11_fit_60 : decode cX11_fit 60 = .ok (.iload 4, 2) := by decide +kernel
theorem dX11_fit_62 : decode cX11_fit 62 = .ok (.iconst (-1), 1) := by decide +kernel
theorem dX11_fit_63 : decode cX11_fit 63 = .ok (.if_icmp .ne 7, 3) := by decide +kernel
theorem dX11_fit_66 : decode cX11_fit 66 = .ok (.iload 5, 2) := by decide +kernel
theorem dX11_fit_68 : decode cX11_fit 68 = .ok (.istore 4, 2) := by decide +kernel
theorem dX11_fit_70 : decode cX11_fit 70 = .ok (.iinc 5 1, 3) := by decide +kernel
theorem dX11_fit_73 : decode cX11_fit 73 = .ok (.goto (-36), 3) := by decide +kernel
theorem dX11_fit_76 : decode cX11_fit 76 = .ok (.iload 4, 2) := by decide +kernel
theorem dX11_fit_78 : decode cX11_fit 78 = .ok (.ireturn, 1) := by decide +kernel
noncomputable def f_X11_fit_J70 (a0 : Nat) (l2 : Int32) (l4 : Int32) (l5 : Int32) (μ : Mm) : Option ((Int32 × Int32) ⊕ (Int32)) :=
  (some (l5 + (1 : Int32))).bind fun v70 => some (.inl (l4, v70))
noncomputable def f_X11_fit_J66 (a0 : Nat) (l2 : Int32) (l5 : Int32) (μ : Mm) : Option ((Int32 × Int32) ⊕ (Int32)) :=
  f_X11_fit_J70 a0 l2 l5 l5 μ
noncomputable def f_X11_fit_L37 (a0 : Nat) (l2 : Int32) (μ : Mm) (s37 : Int32 × Int32) : Option ((Int32 × Int32) ⊕ (Int32)) :=
  (gf_I 12 32 a0 μ).bind fun x40 => if x40 ≤ s37.2 then some (.inr s37.1) else (f_X11_isFitting a0 s37.2 μ).bind fun x49 => if x49 = 0 then f_X11_fit_J70 a0 l2 s37.1 s37.2 μ else if l2 = (2 : Int32) then f_X11_fit_J66 a0 l2 s37.2 μ else if s37.1 = (-1 : Int32) then f_X11_fit_J66 a0 l2 s37.2 μ else f_X11_fit_J70 a0 l2 s37.1 s37.2 μ
noncomputable def f_X11_fit (a0 : Nat) (l1 : Int32) (l2 : Int32) (μ : Mm) : Option (Int32 × Mm) :=
  if (mm_K μ a0).1 = 12 then (f_X11_isStep l1 μ).bind fun x1 => if x1 = 0 then some ((-2 : Int32), μ) else (f_X11_in l2 (0 : Int32) (2 : Int32) μ).bind fun x10 => if x10 = 0 then some ((-2 : Int32), μ) else (f_X11_findFits a0 l1 μ).bind fun x21 => if l2 = 0 then some (x21.1, x21.2) else (whl (f_X11_fit_L37 a0 l2 x21.2) ((-1 : Int32), (0 : Int32))).bind (fun b37 => some (b37, x21.2)) else none
abbrev Rn_X11_fit (G : Gv) (Q : Option Value → Mm → Prop) (pc : Nat) (lv : List (Nat × Value)) (st : List Value) (μ : Mm) : Prop := Rn G RX11 cX11_fit 6 (some .int) "fit" (rmd 5 0 0) (Zm G 0 0 Q) 0 0 pc lv st μ
set_option maxRecDepth 100000 in
set_option maxHeartbeats 4000000 in
theorem m_X11_fit {G : Gv} (a0 : Nat) (l1 : Int32) (l2 : Int32) (μ : Mm) {r : (Int32 × Mm)} (hx : f_X11_fit a0 l1 l2 μ = some r) : Mt G yX11_fit cX11_fit 6 (some .int) 5 0 0 [.ref a0, .int l1, .int l2] μ (fun v μ' => v = some (.int r.1) ∧ μ' = r.2) := by
  refine Mt.of (by decide) (Nat.le_of_ble_eq_true rfl) ?_
  show Rn_X11_fit G (fun v μ' => v = some (.int r.1) ∧ μ' = r.2) 0 [(0, .ref a0), (1, .int l1), (2, .int l2)] [] μ
  obtain ⟨_, h⟩ := Sat_ifp (show Sat (f_X11_fit a0 l1 l2 μ) (fun x => x = r) from ⟨_, hx, rfl⟩)
  refine r_iload_n dX11_fit_0 1 rfl ?_
  obtain ⟨x1, e1, h⟩ := Sat_bind h
  refine r_cS [.int l1] [] (m_X11_isStep l1 μ e1) ck_X11_isStep lk_X11_389 st_X11_isStep rfl rfl (Nat.le_of_ble_eq_true rfl) ⟨by decide, by decide⟩ ⟨Nat.zero_le _, Nat.zero_le _⟩ dX11_fit_1 ?_
  refine r_if_eq 16 dX11_fit_4 (by decide) (fun c4 => ?_) (fun c4 => ?_)
  · have h := Sat_pos c4 h
    refine r_bipush (v := -2) dX11_fit_16 (by decide) ?_
    exact r_ireturn rfl (by rw [← Sat_eq h]; exact ⟨rfl, rfl⟩) dX11_fit_18
  · have h := Sat_neg c4 h
    refine r_iload_n dX11_fit_7 2 rfl ?_
    refine r_iconst (v := 0) dX11_fit_8 (by decide) ?_
    refine r_iconst (v := 2) dX11_fit_9 (by decide) ?_
    obtain ⟨x10, e10, h⟩ := Sat_bind h
    refine r_cS [.int l2, .int (0 : Int32), .int (2 : Int32)] [] (m_X11_in l2 (0 : Int32) (2 : Int32) μ e10) ck_X11_in lk_X11_217 st_X11_in rfl rfl (Nat.le_of_ble_eq_true rfl) ⟨by decide, by decide⟩ ⟨Nat.zero_le _, Nat.zero_le _⟩ dX11_fit_10 ?_
    refine r_if_ne 19 dX11_fit_13 (by decide) (fun c13 => ?_) (fun c13 => ?_)
    · have h := Sat_neg c13 h
      refine r_aload_n dX11_fit_19 0 rfl ?_
      refine r_iload_n dX11_fit_20 1 rfl ?_
      obtain ⟨x21, e21, h⟩ := Sat_bind h
      refine r_cV (t := 12) [.int l1] [] (m_X11_findFits a0 l1 μ e21) ck_X11_findFits lk_X11_392 in_X11_findFits se_X11_findFits (kd_of e21) ⟨rfl, by decide, by decide⟩ rfl rfl (Nat.le_of_ble_eq_true rfl) ⟨by decide, by decide⟩ ⟨Nat.zero_le _, Nat.zero_le _⟩ dX11_fit_21 ?_
      refine r_istore_n (lv' := [(3, .int x21.1), (0, .ref a0), (1, .int l1), (2, .int l2)]) dX11_fit_24 rfl (by decide) rfl ?_
      refine r_iload_n dX11_fit_25 3 rfl ?_
      refine r_if_ne 31 dX11_fit_26 (by decide) (fun c26 => ?_) (fun c26 => ?_)
      · have h := Sat_neg c26 h
        refine r_iconst (v := -1) dX11_fit_31 (by decide) ?_
        refine r_istore (lv' := [(4, .int (-1 : Int32)), (3, .int x21.1), (0, .ref a0), (1, .int l1), (2, .int l2)]) dX11_fit_32 (by decide) rfl ?_
        refine r_iconst (v := 0) dX11_fit_34 (by decide) ?_
        refine r_istore (lv' := [(5, .int (0 : Int32)), (4, .int (-1 : Int32)), (3, .int x21.1), (0, .ref a0), (1, .int l1), (2, .int l2)]) dX11_fit_35 (by decide) rfl ?_
        refine r_sub (lv' := [(0, .ref a0), (2, .int l2), (4, .int (-1 : Int32)), (5, .int (0 : Int32))]) [3, 5, 1, 0] rfl ?_
        refine whl_K (s0 := (((-1 : Int32), (0 : Int32)) : Int32 × Int32)) (RR := fun (s37 : Int32 × Int32) => Rn_X11_fit G (fun v μ' => v = some (.int r.1) ∧ μ' = r.2) 37 [(0, .ref a0), (2, .int l2), (4, .int s37.1), (5, .int s37.2)] [] x21.2) ?_ (Sat_bindK h)
        intro s37 K37 hI37 hX37 h
        have J70 : ∀ (l4_70 : Int32) (l5_70 : Int32), Sat (f_X11_fit_J70 a0 l2 l4_70 l5_70 x21.2) K37 → Rn_X11_fit G (fun v μ' => v = some (.int r.1) ∧ μ' = r.2) 70 [(0, .ref a0), (2, .int l2), (4, .int l4_70), (5, .int l5_70)] [] x21.2 := by
          intro l4_70 l5_70 h
          obtain ⟨v70, e70, h⟩ := Sat_bind h
          refine r_iinc (j := 3) (v := v70) (lv' := [(5, .int v70), (0, .ref a0), (2, .int l2), (4, .int l4_70)]) dX11_fit_70 rfl (iinc_v e70 (by decide)) (by decide) rfl ?_
          refine r_goto 37 dX11_fit_73 (by decide) ?_
          exact r_sub [1, 2, 3, 0] rfl (hI37 _ (Sat_some h))
        have J66 : ∀ (l5_66 : Int32), Sat (f_X11_fit_J66 a0 l2 l5_66 x21.2) K37 → Rn_X11_fit G (fun v μ' => v = some (.int r.1) ∧ μ' = r.2) 66 [(0, .ref a0), (2, .int l2), (5, .int l5_66)] [] x21.2 := by
          intro l5_66 h
          refine r_iload dX11_fit_66 2 rfl ?_
          refine r_istore (lv' := [(4, .int l5_66), (0, .ref a0), (2, .int l2), (5, .int l5_66)]) dX11_fit_68 (by decide) rfl ?_
          exact r_sub [1, 2, 0, 3] rfl (J70 l5_66 l5_66 h)
        refine r_iload dX11_fit_37 3 rfl ?_
        refine r_aload_n dX11_fit_39 0 rfl ?_
        obtain ⟨x40, e40, h⟩ := Sat_bind h
        refine r_getI fk_X11_234 rfl e40 dX11_fit_40 ?_
        refine r_icmp_ge 76 dX11_fit_43 (by decide) (fun c43 => ?_) (fun c43 => ?_)
        · have h := Sat_pos c43 h
          have h := hX37 _ (Sat_some h)
          refine r_iload dX11_fit_76 2 rfl ?_
          exact r_ireturn rfl (by rw [← Sat_eq h]; exact ⟨rfl, rfl⟩) dX11_fit_78
        · have h := Sat_neg c43 h
          refine r_aload_n dX11_fit_46 0 rfl ?_
          refine r_iload dX11_fit_47 3 rfl ?_
          obtain ⟨x49, e49, h⟩ := Sat_bind h
          refine r_cV (t := 12) [.int s37.2] [] (m_X11_isFitting a0 s37.2 x21.2 e49) ck_X11_isFitting lk_X11_395 in_X11_isFitting se_X11_isFitting (kd_of e49) ⟨rfl, by decide, by decide⟩ rfl rfl (Nat.le_of_ble_eq_true rfl) ⟨by decide, by decide⟩ ⟨Nat.zero_le _, Nat.zero_le _⟩ dX11_fit_49 ?_
          refine r_if_eq 70 dX11_fit_52 (by decide) (fun c52 => ?_) (fun c52 => ?_)
          · have h := Sat_pos c52 h
            exact r_sub [0, 1, 2, 3] rfl (J70 s37.1 s37.2 h)
          · have h := Sat_neg c52 h
            refine r_iload_n dX11_fit_55 1 rfl ?_
            refine r_iconst (v := 2) dX11_fit_56 (by decide) ?_
            refine r_icmp_eq 66 dX11_fit_57 (by decide) (fun c57 => ?_) (fun c57 => ?_)
            · have h := Sat_pos c57 h
              exact r_sub [0, 1, 3] rfl (J66 s37.2 h)
            · have h := Sat_neg c57 h
              refine r_iload dX11_fit_60 2 rfl ?_
              refine r_iconst (v := -1) dX11_fit_62 (by decide) ?_
              refine r_icmp_ne 70 dX11_fit_63 (by decide) (fun c63 => ?_) (fun c63 => ?_)
              · have h := Sat_neg c63 h
                exact r_sub [0, 1, 2, 3] rfl (J70 s37.1 s37.2 h)
              · have h := Sat_pos c63 h
                exact r_sub [0, 1, 3] rfl (J66 s37.2 h)
      · have h := Sat_pos c26 h
        refine r_iload_n dX11_fit_29 0 rfl ?_
        exact r_ireturn rfl (by rw [← Sat_eq h]; exact ⟨rfl, rfl⟩) dX11_fit_30
    · have h := Sat_pos c13 h
      refine r_bipush (v := -2) dX11_fit_16 (by decide) ?_
      exact r_ireturn rfl (by rw [← Sat_eq h]; exact ⟨rfl, rfl⟩) dX11_fit_18
theorem dX11_runDay_0 : decode cX11_runDay 0 = .ok (.aload_n 0, 1) := by decide +kernel
theorem dX11_runDay_1 : decode cX11_runDay 1 = .ok (.getfield 449, 3) := by decide +kernel
theorem dX11_runDay_4 : decode cX11_runDay 4 = .ok (.aload_n 0, 1) := by decide +kernel
theorem dX11_runDay_5 : decode cX11_runDay 5 = .ok (.getfield 17, 3) := by decide +kernel
theorem dX11_runDay_8 : decode cX11_runDay 8 = .ok (.iconst 5, 1) := by decide +kernel
theorem dX11_runDay_9 : decode cX11_runDay 9 = .ok (.iaload, 1) := by decide +kernel
theorem dX11_runDay_10 : decode cX11_runDay 10 = .ok (.irem, 1) := by decide +kernel
theorem dX11_runDay_11 : decode cX11_runDay 11 = .ok (.istore_n 1, 1) := by decide +kernel
theorem dX11_runDay_12 : decode cX11_runDay 12 = .ok (.aload_n 0, 1) := by decide +kernel
theorem dX11_runDay_13 : decode cX11_runDay 13 = .ok (.aload_n 0, 1) := by decide +kernel
theorem dX11_runDay_14 : decode cX11_runDay 14 = .ok (.getfield 73, 3) := by decide +kernel
theorem dX11_runDay_17 : decode cX11_runDay 17 = .ok (.aload_n 0, 1) := by decide +kernel
theorem dX11_runDay_18 : decode cX11_runDay 18 = .ok (.getfield 446, 3) := by decide +kernel
theorem dX11_runDay_21 : decode cX11_runDay 21 = .ok (.laload, 1) := by decide +kernel
theorem dX11_runDay_22 : decode cX11_runDay 22 = .ok (.iload_n 1, 1) := by decide +kernel
theorem dX11_runDay_23 : decode cX11_runDay 23 = .ok (.bipush 7, 2) := by decide +kernel
theorem dX11_runDay_25 : decode cX11_runDay 25 = .ok (.invokevirtual 356, 3) := by decide +kernel
theorem dX11_runDay_28 : decode cX11_runDay 28 = .ok (.aload_n 0, 1) := by decide +kernel
theorem dX11_runDay_29 : decode cX11_runDay 29 = .ok (.aload_n 0, 1) := by decide +kernel
theorem dX11_runDay_30 : decode cX11_runDay 30 = .ok (.getfield 73, 3) := by decide +kernel
theorem dX11_runDay_33 : decode cX11_runDay 33 = .ok (.aload_n 0, 1) := by decide +kernel
theorem dX11_runDay_34 : decode cX11_runDay 34 = .ok (.getfield 446, 3) := by decide +kernel
theorem dX11_runDay_37 : decode cX11_runDay 37 = .ok (.laload, 1) := by decide +kernel
theorem dX11_runDay_38 : decode cX11_runDay 38 = .ok (.iload_n 1, 1) := by decide +kernel
theorem dX11_runDay_39 : decode cX11_runDay 39 = .ok (.bipush 7, 2) := by decide +kernel
theorem dX11_runDay_41 : decode cX11_runDay 41 = .ok (.invokevirtual 360, 3) := by decide +kernel
theorem dX11_runDay_44 : decode cX11_runDay 44 = .ok (.aload_n 0, 1) := by decide +kernel
theorem dX11_runDay_45 : decode cX11_runDay 45 = .ok (.dup, 1) := by decide +kernel
theorem dX11_runDay_46 : decode cX11_runDay 46 = .ok (.getfield 449, 3) := by decide +kernel
theorem dX11_runDay_49 : decode cX11_runDay 49 = .ok (.iconst 1, 1) := by decide +kernel
theorem dX11_runDay_50 : decode cX11_runDay 50 = .ok (.iadd, 1) := by decide +kernel
theorem dX11_runDay_51 : decode cX11_runDay 51 = .ok (.putfield 449, 3) := by decide +kernel
theorem dX11_runDay_54 : decode cX11_runDay 54 = .ok (.iload_n 1, 1) := by decide +kernel
theorem dX11_runDay_55 : decode cX11_runDay 55 = .ok (.iconst 1, 1) := by decide +kernel
theorem dX11_runDay_56 : decode cX11_runDay 56 = .ok (.iadd, 1) := by decide +kernel
theorem dX11_runDay_57 : decode cX11_runDay 57 = .ok (.aload_n 0, 1) := by decide +kernel
theorem dX11_runDay_58 : decode cX11_runDay 58 = .ok (.getfield 17, 3) := by decide +kernel
theorem dX11_runDay_61 : decode cX11_runDay 61 = .ok (.iconst 5, 1) := by decide +kernel
theorem dX11_runDay_62 : decode cX11_runDay 62 = .ok (.iaload, 1) := by decide +kernel
theorem dX11_runDay_63 : decode cX11_runDay 63 = .ok (.if_icmp .ne 15, 3) := by decide +kernel
theorem dX11_runDay_66 : decode cX11_runDay 66 = .ok (.aload_n 0, 1) := by decide +kernel
theorem dX11_runDay_67 : decode cX11_runDay 67 = .ok (.aload_n 0, 1) := by decide +kernel
theorem dX11_runDay_68 : decode cX11_runDay 68 = .ok (.aload_n 0, 1) := by decide +kernel
theorem dX11_runDay_69 : decode cX11_runDay 69 = .ok (.getfield 234, 3) := by decide +kernel
theorem dX11_runDay_72 : decode cX11_runDay 72 = .ok (.invokevirtual 460, 3) := by decide +kernel
theorem dX11_runDay_75 : decode cX11_runDay 75 = .ok (.putfield 446, 3) := by decide +kernel
theorem dX11_runDay_78 : decode cX11_runDay 78 = .ok (.return_, 1) := by decide +kernel
noncomputable def f_X11_runDay (a0 : Nat) (μ : Mm) : Option Mm :=
  if (mm_K μ a0).1 = 12 then (gf_I 12 66 a0 μ).bind fun x1 => (gf_P 12 12 a0 μ).bind fun x5 => (ga_I x5 (5 : Int32) μ).bind fun x9 => if x9 = 0 then none else (some (x1 - x1 / x9 * x9)).bind fun v11 => (gf_P 12 34 a0 μ).bind fun x14 => (gf_I 12 65 a0 μ).bind fun x18 => (ga_L x14 x18 μ).bind fun x21 => (f_X11_byDay a0 x21 v11 (7 : Int32) μ).bind fun x25 => (gf_P 12 34 a0 x25).bind fun x30 => (gf_I 12 65 a0 x25).bind fun x34 => (ga_L x30 x34 x25).bind fun x37 => (f_X11_byNight a0 x37 v11 (7 : Int32) x25).bind fun x41 => (gf_I 12 66 a0 x41).bind fun x46 => (pf_I 12 66 a0 (x46 + (1 : Int32)) x41).bind fun μ51 => (gf_P 12 12 a0 μ51).bind fun x58 => (ga_I x58 (5 : Int32) μ51).bind fun x62 => if (v11 + (1 : Int32)) = x62 then (gf_I 12 32 a0 μ51).bind fun x69 => (f_X11_draw a0 x69 μ51).bind fun x72 => (pf_I 12 65 a0 x72.1 x72.2).bind fun μ75 => some μ75 else some μ51 else none
abbrev Rn_X11_runDay (G : Gv) (Q : Option Value → Mm → Prop) (pc : Nat) (lv : List (Nat × Value)) (st : List Value) (μ : Mm) : Prop := Rn G RX11 cX11_runDay 2 none "runDay" (rmd 3 0 0) (Zm G 0 0 Q) 0 0 pc lv st μ
set_option maxRecDepth 100000 in
set_option maxHeartbeats 4000000 in
theorem m_X11_runDay {G : Gv} (a0 : Nat) (μ : Mm) {r : Mm} (hx : f_X11_runDay a0 μ = some r) : Mt G yX11_runDay cX11_runDay 2 none 3 0 0 [.ref a0] μ (fun v μ' => v = none ∧ μ' = r) := by
  refine Mt.of (by decide) (Nat.le_of_ble_eq_true rfl) ?_
  show Rn_X11_runDay G (fun v μ' => v = none ∧ μ' = r) 0 [(0, .ref a0)] [] μ
  obtain ⟨_, h⟩ := Sat_ifp (show Sat (f_X11_runDay a0 μ) (fun x => x = r) from ⟨_, hx, rfl⟩)
  refine r_aload_n dX11_runDay_0 0 rfl ?_
  obtain ⟨x1, e1, h⟩ := Sat_bind h
  refine r_getI fk_X11_449 rfl e1 dX11_runDay_1 ?_
  refine r_aload_n dX11_runDay_4 0 rfl ?_
  obtain ⟨x5, e5, h⟩ := Sat_bind h
  refine r_getP fk_X11_17 rfl e5 dX11_runDay_5 ?_
  refine r_iconst (v := 5) dX11_runDay_8 (by decide) ?_
  obtain ⟨x9, e9, h⟩ := Sat_bind h
  refine r_iaload e9 dX11_runDay_9 ?_
  obtain ⟨z10, h⟩ := Sat_ifn h
  refine r_irem dX11_runDay_10 z10 ?_
  obtain ⟨v11, e11, h⟩ := Sat_bind h
  refine r_topi (Option.some.inj e11) ?_
  refine r_istore_n (lv' := [(1, .int v11), (0, .ref a0)]) dX11_runDay_11 rfl (by decide) rfl ?_
  refine r_aload_n dX11_runDay_12 1 rfl ?_
  refine r_aload_n dX11_runDay_13 1 rfl ?_
  obtain ⟨x14, e14, h⟩ := Sat_bind h
  refine r_getP fk_X11_73 rfl e14 dX11_runDay_14 ?_
  refine r_aload_n dX11_runDay_17 1 rfl ?_
  obtain ⟨x18, e18, h⟩ := Sat_bind h
  refine r_getI fk_X11_446 rfl e18 dX11_runDay_18 ?_
  obtain ⟨x21, e21, h⟩ := Sat_bind h
  refine r_laload e21 dX11_runDay_21 ?_
  refine r_iload_n dX11_runDay_22 0 rfl ?_
  refine r_bipush (v := 7) dX11_runDay_23 (by decide) ?_
  obtain ⟨x25, e25, h⟩ := Sat_bind h
  refine r_cV (t := 12) [.long x21, .int v11, .int (7 : Int32)] [] (m_X11_byDay a0 x21 v11 (7 : Int32) μ e25) ck_X11_byDay lk_X11_356 in_X11_byDay se_X11_byDay (kd_of e25) ⟨rfl, by decide, by decide⟩ rfl rfl (Nat.le_of_ble_eq_true rfl) ⟨by decide, by decide⟩ ⟨Nat.zero_le _, Nat.zero_le _⟩ dX11_runDay_25 ?_
  refine r_aload_n dX11_runDay_28 1 rfl ?_
  refine r_aload_n dX11_runDay_29 1 rfl ?_
  obtain ⟨x30, e30, h⟩ := Sat_bind h
  refine r_getP fk_X11_73 rfl e30 dX11_runDay_30 ?_
  refine r_aload_n dX11_runDay_33 1 rfl ?_
  obtain ⟨x34, e34, h⟩ := Sat_bind h
  refine r_getI fk_X11_446 rfl e34 dX11_runDay_34 ?_
  obtain ⟨x37, e37, h⟩ := Sat_bind h
  refine r_laload e37 dX11_runDay_37 ?_
  refine r_iload_n dX11_runDay_38 0 rfl ?_
  refine r_bipush (v := 7) dX11_runDay_39 (by decide) ?_
  obtain ⟨x41, e41, h⟩ := Sat_bind h
  refine r_cV (t := 12) [.long x37, .int v11, .int (7 : Int32)] [] (m_X11_byNight a0 x37 v11 (7 : Int32) x25 e41) ck_X11_byNight lk_X11_360 in_X11_byNight se_X11_byNight (kd_of e41) ⟨rfl, by decide, by decide⟩ rfl rfl (Nat.le_of_ble_eq_true rfl) ⟨by decide, by decide⟩ ⟨Nat.zero_le _, Nat.zero_le _⟩ dX11_runDay_41 ?_
  refine r_aload_n dX11_runDay_44 1 rfl ?_
  refine r_dup dX11_runDay_45 rfl ?_
  obtain ⟨x46, e46, h⟩ := Sat_bind h
  refine r_getI fk_X11_449 rfl e46 dX11_runDay_46 ?_
  refine r_iconst (v := 1) dX11_runDay_49 (by decide) ?_
  refine r_iadd dX11_runDay_50 ?_
  obtain ⟨μ51, e51, h⟩ := Sat_bind h
  refine r_putI fk_X11_449 rfl rfl e51 dX11_runDay_51 ?_
  refine r_iload_n dX11_runDay_54 0 rfl ?_
  refine r_iconst (v := 1) dX11_runDay_55 (by decide) ?_
  refine r_iadd dX11_runDay_56 ?_
  refine r_aload_n dX11_runDay_57 1 rfl ?_
  obtain ⟨x58, e58, h⟩ := Sat_bind h
  refine r_getP fk_X11_17 rfl e58 dX11_runDay_58 ?_
  refine r_iconst (v := 5) dX11_runDay_61 (by decide) ?_
  obtain ⟨x62, e62, h⟩ := Sat_bind h
  refine r_iaload e62 dX11_runDay_62 ?_
  refine r_icmp_ne 78 dX11_runDay_63 (by decide) (fun c63 => ?_) (fun c63 => ?_)
  · have h := Sat_neg c63 h
    exact r_vreturn rfl (by rw [← Sat_eq h]; exact ⟨rfl, rfl⟩) dX11_runDay_78
  · have h := Sat_pos c63 h
    refine r_aload_n dX11_runDay_66 1 rfl ?_
    refine r_aload_n dX11_runDay_67 1 rfl ?_
    refine r_aload_n dX11_runDay_68 1 rfl ?_
    obtain ⟨x69, e69, h⟩ := Sat_bind h
    refine r_getI fk_X11_234 rfl e69 dX11_runDay_69 ?_
    obtain ⟨x72, e72, h⟩ := Sat_bind h
    refine r_cV (t := 12) [.int x69] [.ref a0] (m_X11_draw a0 x69 μ51 e72) ck_X11_draw lk_X11_460 in_X11_draw se_X11_draw (kd_of e72) ⟨rfl, by decide, by decide⟩ rfl rfl (Nat.le_of_ble_eq_true rfl) ⟨by decide, by decide⟩ ⟨Nat.zero_le _, Nat.zero_le _⟩ dX11_runDay_72 ?_
    obtain ⟨μ75, e75, h⟩ := Sat_bind h
    refine r_putI fk_X11_446 rfl rfl e75 dX11_runDay_75 ?_
    exact r_vreturn rfl (by rw [← Sat_eq h]; exact ⟨rfl, rfl⟩) dX11_runDay_78
theorem dX11_go_0 : decode cX11_go 0 = .ok (.iload_n 1, 1) := by decide +kernel
theorem dX11_go_1 : decode cX11_go 1 = .ok (.iconst 0, 1) := by decide +kernel
theorem dX11_go_2 : decode cX11_go 2 = .ok (.sipush 200, 3) := by decide +kernel
theorem dX11_go_5 : decode cX11_go 5 = .ok (.invokestatic 217, 3) := by decide +kernel
theorem dX11_go_8 : decode cX11_go 8 = .ok (.ifCond .ne 6, 3) := by decide +kernel
theorem dX11_go_11 : decode cX11_go 11 = .ok (.bipush (-2), 2) := by decide +kernel
theorem dX11_go_13 : decode cX11_go 13 = .ok (.ireturn, 1) := by decide +kernel
theorem dX11_go_14 : decode cX11_go 14 = .ok (.aload_n 0, 1) := by decide +kernel
theorem dX11_go_15 : decode cX11_go 15 = .ok (.getfield 253, 3) := by decide +kernel
theorem dX11_go_18 : decode cX11_go 18 = .ok (.ifCond .ne 6, 3) := by decide +kernel
theorem dX11_go_21 : decode cX11_go 21 = .ok (.bipush (-4), 2) := by decide +kernel
theorem dX11_go_23 : decode cX11_go 23 = .ok (.ireturn, 1) := by decide +kernel
theorem dX11_go_24 : decode cX11_go 24 = .ok (.iconst 0, 1) := by decide +kernel
theorem dX11_go_25 : decode cX11_go 25 = .ok (.istore_n 2, 1) := by decide +kernel
theorem dX11_go_26 : decode cX11_go 26 = .ok (.iload_n 2, 1) := by decide +kernel
theorem dX11_go_27 : decode cX11_go 27 = .ok (.bipush 8, 2) := by decide +kernel
theorem dX11_go_29 : decode cX11_go 29 = .ok (.if_icmp .ge 21, 3) := by decide +kernel
theorem dX11_go_32 : decode cX11_go 32 = .ok (.aload_n 0, 1) := by decide +kernel
theorem dX11_go_33 : decode cX11_go 33 = .ok (.getfield 76, 3) := by decide +kernel
theorem dX11_go_36 : decode cX11_go 36 = .ok (.iload_n 2, 1) := by decide +kernel
theorem dX11_go_37 : decode cX11_go 37 = .ok (.aload_n 0, 1) := by decide +kernel
theorem dX11_go_38 : decode cX11_go 38 = .ok (.getfield 133, 3) := by decide +kernel
theorem dX11_go_41 : decode cX11_go 41 = .ok (.iload_n 2, 1) := by decide +kernel
theorem dX11_go_42 : decode cX11_go 42 = .ok (.iaload, 1) := by decide +kernel
theorem dX11_go_43 : decode cX11_go 43 = .ok (.iastore, 1) := by decide +kernel
theorem dX11_go_44 : decode cX11_go 44 = .ok (.iinc 2 1, 3) := by decide +kernel
theorem dX11_go_47 : decode cX11_go 47 = .ok (.goto (-21), 3) := by decide +kernel
theorem dX11_go_50 : decode cX11_go 50 = .ok (.iconst 0, 1) := by decide +kernel
theorem dX11_go_51 : decode cX11_go 51 = .ok (.istore_n 2, 1) := by decide +kernel
theorem dX11_go_52 : decode cX11_go 52 = .ok (.iload_n 2, 1) := by decide +kernel
theorem dX11_go_53 : decode cX11_go 53 = .ok (.iload_n 1, 1) := by decide +kernel
theorem dX11_go_54 : decode cX11_go 54 = .ok (.if_icmp .ge 13, 3) := by decide +kernel
theorem dX11_go_57 : decode cX11_go 57 = .ok (.aload_n 0, 1) := by decide +kernel
theorem dX11_go_58 : decode cX11_go 58 = .ok (.invokevirtual 463, 3) := by decide +kernel
theorem dX11_go_61 : decode cX11_go 61 = .ok (.iinc 2 1, 3) := by decide +kernel
theorem dX11_go_64 : decode cX11_go 64 = .ok (.goto (-12), 3) := by decide +kernel
theorem dX11_go_67 : decode cX11_go 67 = .ok (.iconst 0, 1) := by decide +kernel
theorem dX11_go_68 : decode cX11_go 68 = .ok (.istore_n 2, 1) := by decide +kernel
theorem dX11_go_69 : decode cX11_go 69 = .ok (.iload_n 2, 1) := by decide +kernel
theorem dX11_go_70 : decode cX11_go 70 = .ok (.bipush 8, 2) := by decide +kernel
theorem dX11_go_72 : decode cX11_go 72 = .ok (.if_icmp .ge 21, 3) := by decide +kernel
theorem dX11_go_75 : decode cX11_go 75 = .ok (.aload_n 0, 1) := by decide +kernel
theorem dX11_go_76 : decode cX11_go 76 = .ok (.getfield 133, 3) := by decide +kernel
theorem dX11_go_79 : decode cX11_go 79 = .ok (.iload_n 2, 1) := by decide +kernel
theorem dX11_go_80 : decode cX11_go 80 = .ok (.aload_n 0, 1) := by decide +kernel
theorem dX11_go_81 : decode cX11_go 81 = .ok (.getfield 76, 3) := by decide +kernel
theorem dX11_go_84 : decode cX11_go 84 = .ok (.iload_n 2, 1) := by decide +kernel
theorem dX11_go_85 : decode cX11_go 85 = .ok (.iaload, 1) := by decide +kernel
theorem dX11_go_86 : decode cX11_go 86 = .ok (.iastore, 1) := by decide +kernel
theorem dX11_go_87 : decode cX11_go 87 = .ok (.iinc 2 1, 3) := by decide +kernel
theorem dX11_go_90 : decode cX11_go 90 = .ok (.goto (-21), 3) := by decide +kernel
theorem dX11_go_93 : decode cX11_go 93 = .ok (.aload_n 0, 1) := by decide +kernel
theorem dX11_go_94 : decode cX11_go 94 = .ok (.getfield 449, 3) := by decide +kernel
theorem dX11_go_97 : decode cX11_go 97 = .ok (.ireturn, 1) := by decide +kernel
noncomputable def f_X11_go_J93 (a0 : Nat) (μ : Mm) : Option (Int32 × Mm) :=
  (gf_I 12 66 a0 μ).bind fun x94 => some (x94, μ)
noncomputable def f_X11_go_L69 (a0 : Nat) (s69 : Int32 × Mm) : Option ((Int32 × Mm) ⊕ (Mm)) :=
  if (8 : Int32) ≤ s69.1 then some (.inr s69.2) else (gf_P 12 68 a0 s69.2).bind fun x76 => (gf_P 12 35 a0 s69.2).bind fun x81 => (ga_I x81 s69.1 s69.2).bind fun x85 => (pa_I x76 s69.1 x85 s69.2).bind fun μ86 => (some (s69.1 + (1 : Int32))).bind fun v87 => some (.inl (v87, μ86))
noncomputable def f_X11_go_J67 (a0 : Nat) (μ : Mm) : Option (Int32 × Mm) :=
  (whl (f_X11_go_L69 a0) ((0 : Int32), μ)).bind (fun b69 => f_X11_go_J93 a0 b69)
noncomputable def f_X11_go_L52 (a0 : Nat) (l1 : Int32) (s52 : Int32 × Mm) : Option ((Int32 × Mm) ⊕ (Mm)) :=
  if l1 ≤ s52.1 then some (.inr s52.2) else (f_X11_runDay a0 s52.2).bind fun x58 => (some (s52.1 + (1 : Int32))).bind fun v61 => some (.inl (v61, x58))
noncomputable def f_X11_go_J50 (a0 : Nat) (l1 : Int32) (μ : Mm) : Option (Int32 × Mm) :=
  (whl (f_X11_go_L52 a0 l1) ((0 : Int32), μ)).bind (fun b52 => f_X11_go_J67 a0 b52)
noncomputable def f_X11_go_L26 (a0 : Nat) (l1 : Int32) (s26 : Int32 × Mm) : Option ((Int32 × Mm) ⊕ (Mm)) :=
  if (8 : Int32) ≤ s26.1 then some (.inr s26.2) else (gf_P 12 35 a0 s26.2).bind fun x33 => (gf_P 12 68 a0 s26.2).bind fun x38 => (ga_I x38 s26.1 s26.2).bind fun x42 => (pa_I x33 s26.1 x42 s26.2).bind fun μ43 => (some (s26.1 + (1 : Int32))).bind fun v44 => some (.inl (v44, μ43))
noncomputable def f_X11_go (a0 : Nat) (l1 : Int32) (μ : Mm) : Option (Int32 × Mm) :=
  if (mm_K μ a0).1 = 12 then (f_X11_in l1 (0 : Int32) (200 : Int32) μ).bind fun x5 => if x5 = 0 then some ((-2 : Int32), μ) else (gf_I 12 64 a0 μ).bind fun x15 => if x15 = 0 then some ((-4 : Int32), μ) else (whl (f_X11_go_L26 a0 l1) ((0 : Int32), μ)).bind (fun b26 => f_X11_go_J50 a0 l1 b26) else none
abbrev Rn_X11_go (G : Gv) (Q : Option Value → Mm → Prop) (pc : Nat) (lv : List (Nat × Value)) (st : List Value) (μ : Mm) : Prop := Rn G RX11 cX11_go 3 (some .int) "go" (rmd 4 0 0) (Zm G 0 0 Q) 0 0 pc lv st μ
set_option maxRecDepth 100000 in
set_option maxHeartbeats 4000000 in
theorem m_X11_go {G : Gv} (a0 : Nat) (l1 : Int32) (μ : Mm) {r : (Int32 × Mm)} (hx : f_X11_go a0 l1 μ = some r) : Mt G yX11_go cX11_go 3 (some .int) 4 0 0 [.ref a0, .int l1] μ (fun v μ' => v = some (.int r.1) ∧ μ' = r.2) := by
  refine Mt.of (by decide) (Nat.le_of_ble_eq_true rfl) ?_
  show Rn_X11_go G (fun v μ' => v = some (.int r.1) ∧ μ' = r.2) 0 [(0, .ref a0), (1, .int l1)] [] μ
  obtain ⟨_, h⟩ := Sat_ifp (show Sat (f_X11_go a0 l1 μ) (fun x => x = r) from ⟨_, hx, rfl⟩)
  have J93 : ∀ (a0_93 : Nat) (μ_93 : Mm), Sat (f_X11_go_J93 a0_93 μ_93) (fun x => x = r) → Rn_X11_go G (fun v μ' => v = some (.int r.1) ∧ μ' = r.2) 93 [(0, .ref a0_93)] [] μ_93 := by
    intro a0_93 μ_93 h
    refine r_aload_n dX11_go_93 0 rfl ?_
    obtain ⟨x94, e94, h⟩ := Sat_bind h
    refine r_getI fk_X11_449 rfl e94 dX11_go_94 ?_
    exact r_ireturn rfl (by rw [← Sat_eq h]; exact ⟨rfl, rfl⟩) dX11_go_97
  have J67 : ∀ (a0_67 : Nat) (μ_67 : Mm), Sat (f_X11_go_J67 a0_67 μ_67) (fun x => x = r) → Rn_X11_go G (fun v μ' => v = some (.int r.1) ∧ μ' = r.2) 67 [(0, .ref a0_67)] [] μ_67 := by
    intro a0_67 μ_67 h
    refine r_iconst (v := 0) dX11_go_67 (by decide) ?_
    refine r_istore_n (lv' := [(2, .int (0 : Int32)), (0, .ref a0_67)]) dX11_go_68 rfl (by decide) rfl ?_
    refine r_sub (lv' := [(0, .ref a0_67), (2, .int (0 : Int32))]) [1, 0] rfl ?_
    refine whl_K (s0 := (((0 : Int32), μ_67) : Int32 × Mm)) (RR := fun (s69 : Int32 × Mm) => Rn_X11_go G (fun v μ' => v = some (.int r.1) ∧ μ' = r.2) 69 [(0, .ref a0_67), (2, .int s69.1)] [] s69.2) ?_ (Sat_bindK h)
    intro s69 K69 hI69 hX69 h
    refine r_iload_n dX11_go_69 1 rfl ?_
    refine r_bipush (v := 8) dX11_go_70 (by decide) ?_
    refine r_icmp_ge 93 dX11_go_72 (by decide) (fun c72 => ?_) (fun c72 => ?_)
    · have h := Sat_pos c72 h
      have h := hX69 _ (Sat_some h)
      exact r_sub [0] rfl (J93 a0_67 s69.2 h)
    · have h := Sat_neg c72 h
      refine r_aload_n dX11_go_75 0 rfl ?_
      obtain ⟨x76, e76, h⟩ := Sat_bind h
      refine r_getP fk_X11_133 rfl e76 dX11_go_76 ?_
      refine r_iload_n dX11_go_79 1 rfl ?_
      refine r_aload_n dX11_go_80 0 rfl ?_
      obtain ⟨x81, e81, h⟩ := Sat_bind h
      refine r_getP fk_X11_76 rfl e81 dX11_go_81 ?_
      refine r_iload_n dX11_go_84 1 rfl ?_
      obtain ⟨x85, e85, h⟩ := Sat_bind h
      refine r_iaload e85 dX11_go_85 ?_
      obtain ⟨μ86, e86, h⟩ := Sat_bind h
      refine r_iastore e86 dX11_go_86 ?_
      obtain ⟨v87, e87, h⟩ := Sat_bind h
      refine r_iinc (j := 1) (v := v87) (lv' := [(2, .int v87), (0, .ref a0_67)]) dX11_go_87 rfl (iinc_v e87 (by decide)) (by decide) rfl ?_
      refine r_goto 69 dX11_go_90 (by decide) ?_
      exact r_sub [1, 0] rfl (hI69 _ (Sat_some h))
  have J50 : ∀ (a0_50 : Nat) (l1_50 : Int32) (μ_50 : Mm), Sat (f_X11_go_J50 a0_50 l1_50 μ_50) (fun x => x = r) → Rn_X11_go G (fun v μ' => v = some (.int r.1) ∧ μ' = r.2) 50 [(0, .ref a0_50), (1, .int l1_50)] [] μ_50 := by
    intro a0_50 l1_50 μ_50 h
    refine r_iconst (v := 0) dX11_go_50 (by decide) ?_
    refine r_istore_n (lv' := [(2, .int (0 : Int32)), (0, .ref a0_50), (1, .int l1_50)]) dX11_go_51 rfl (by decide) rfl ?_
    refine r_sub (lv' := [(0, .ref a0_50), (1, .int l1_50), (2, .int (0 : Int32))]) [1, 2, 0] rfl ?_
    refine whl_K (s0 := (((0 : Int32), μ_50) : Int32 × Mm)) (RR := fun (s52 : Int32 × Mm) => Rn_X11_go G (fun v μ' => v = some (.int r.1) ∧ μ' = r.2) 52 [(0, .ref a0_50), (1, .int l1_50), (2, .int s52.1)] [] s52.2) ?_ (Sat_bindK h)
    intro s52 K52 hI52 hX52 h
    refine r_iload_n dX11_go_52 2 rfl ?_
    refine r_iload_n dX11_go_53 1 rfl ?_
    refine r_icmp_ge 67 dX11_go_54 (by decide) (fun c54 => ?_) (fun c54 => ?_)
    · have h := Sat_pos c54 h
      have h := hX52 _ (Sat_some h)
      exact r_sub [0] rfl (J67 a0_50 s52.2 h)
    · have h := Sat_neg c54 h
      refine r_aload_n dX11_go_57 0 rfl ?_
      obtain ⟨x58, e58, h⟩ := Sat_bind h
      refine r_cV (t := 12) [] [] (m_X11_runDay a0_50 s52.2 e58) ck_X11_runDay lk_X11_463 in_X11_runDay se_X11_runDay (kd_of e58) ⟨rfl, by decide, by decide⟩ rfl rfl (Nat.le_of_ble_eq_true rfl) ⟨by decide, by decide⟩ ⟨Nat.zero_le _, Nat.zero_le _⟩ dX11_go_58 ?_
      obtain ⟨v61, e61, h⟩ := Sat_bind h
      refine r_iinc (j := 2) (v := v61) (lv' := [(2, .int v61), (0, .ref a0_50), (1, .int l1_50)]) dX11_go_61 rfl (iinc_v e61 (by decide)) (by decide) rfl ?_
      refine r_goto 52 dX11_go_64 (by decide) ?_
      exact r_sub [1, 2, 0] rfl (hI52 _ (Sat_some h))
  refine r_iload_n dX11_go_0 1 rfl ?_
  refine r_iconst (v := 0) dX11_go_1 (by decide) ?_
  refine r_sipush (v := 200) dX11_go_2 (by decide) ?_
  obtain ⟨x5, e5, h⟩ := Sat_bind h
  refine r_cS [.int l1, .int (0 : Int32), .int (200 : Int32)] [] (m_X11_in l1 (0 : Int32) (200 : Int32) μ e5) ck_X11_in lk_X11_217 st_X11_in rfl rfl (Nat.le_of_ble_eq_true rfl) ⟨by decide, by decide⟩ ⟨Nat.zero_le _, Nat.zero_le _⟩ dX11_go_5 ?_
  refine r_if_ne 14 dX11_go_8 (by decide) (fun c8 => ?_) (fun c8 => ?_)
  · have h := Sat_neg c8 h
    refine r_aload_n dX11_go_14 0 rfl ?_
    obtain ⟨x15, e15, h⟩ := Sat_bind h
    refine r_getI fk_X11_253 rfl e15 dX11_go_15 ?_
    refine r_if_ne 24 dX11_go_18 (by decide) (fun c18 => ?_) (fun c18 => ?_)
    · have h := Sat_neg c18 h
      refine r_iconst (v := 0) dX11_go_24 (by decide) ?_
      refine r_istore_n (lv' := [(2, .int (0 : Int32)), (0, .ref a0), (1, .int l1)]) dX11_go_25 rfl (by decide) rfl ?_
      refine r_sub (lv' := [(0, .ref a0), (1, .int l1), (2, .int (0 : Int32))]) [1, 2, 0] rfl ?_
      refine whl_K (s0 := (((0 : Int32), μ) : Int32 × Mm)) (RR := fun (s26 : Int32 × Mm) => Rn_X11_go G (fun v μ' => v = some (.int r.1) ∧ μ' = r.2) 26 [(0, .ref a0), (1, .int l1), (2, .int s26.1)] [] s26.2) ?_ (Sat_bindK h)
      intro s26 K26 hI26 hX26 h
      refine r_iload_n dX11_go_26 2 rfl ?_
      refine r_bipush (v := 8) dX11_go_27 (by decide) ?_
      refine r_icmp_ge 50 dX11_go_29 (by decide) (fun c29 => ?_) (fun c29 => ?_)
      · have h := Sat_pos c29 h
        have h := hX26 _ (Sat_some h)
        exact r_sub [0, 1] rfl (J50 a0 l1 s26.2 h)
      · have h := Sat_neg c29 h
        refine r_aload_n dX11_go_32 0 rfl ?_
        obtain ⟨x33, e33, h⟩ := Sat_bind h
        refine r_getP fk_X11_76 rfl e33 dX11_go_33 ?_
        refine r_iload_n dX11_go_36 2 rfl ?_
        refine r_aload_n dX11_go_37 0 rfl ?_
        obtain ⟨x38, e38, h⟩ := Sat_bind h
        refine r_getP fk_X11_133 rfl e38 dX11_go_38 ?_
        refine r_iload_n dX11_go_41 2 rfl ?_
        obtain ⟨x42, e42, h⟩ := Sat_bind h
        refine r_iaload e42 dX11_go_42 ?_
        obtain ⟨μ43, e43, h⟩ := Sat_bind h
        refine r_iastore e43 dX11_go_43 ?_
        obtain ⟨v44, e44, h⟩ := Sat_bind h
        refine r_iinc (j := 2) (v := v44) (lv' := [(2, .int v44), (0, .ref a0), (1, .int l1)]) dX11_go_44 rfl (iinc_v e44 (by decide)) (by decide) rfl ?_
        refine r_goto 26 dX11_go_47 (by decide) ?_
        exact r_sub [1, 2, 0] rfl (hI26 _ (Sat_some h))
    · have h := Sat_pos c18 h
      refine r_bipush (v := -4) dX11_go_21 (by decide) ?_
      exact r_ireturn rfl (by rw [← Sat_eq h]; exact ⟨rfl, rfl⟩) dX11_go_23
  · have h := Sat_pos c8 h
    refine r_bipush (v := -2) dX11_go_11 (by decide) ?_
    exact r_ireturn rfl (by rw [← Sat_eq h]; exact ⟨rfl, rfl⟩) dX11_go_13
theorem dX11_isAlone_0 : decode cX11_isAlone 0 = .ok (.aload_n 0, 1) := by decide +kernel
theorem dX11_isAlone_1 : decode cX11_isAlone 1 = .ok (.getfield 17, 3) := by decide +kernel
theorem dX11_isAlone_4 : decode cX11_isAlone 4 = .ok (.bipush 7, 2) := by decide +kernel
theorem dX11_isAlone_6 : decode cX11_isAlone 6 = .ok (.iaload, 1) := by decide +kernel
theorem dX11_isAlone_7 : decode cX11_isAlone 7 = .ok (.iload_n 1, 1) := by decide +kernel
theorem dX11_isAlone_8 : decode cX11_isAlone 8 = .ok (.ishr, 1) := by decide +kernel
theorem dX11_isAlone_9 : decode cX11_isAlone 9 = .ok (.iconst 1, 1) := by decide +kernel
theorem dX11_isAlone_10 : decode cX11_isAlone 10 = .ok (.iand, 1) := by decide +kernel
theorem dX11_isAlone_11 : decode cX11_isAlone 11 = .ok (.iconst 1, 1) := by decide +kernel
theorem dX11_isAlone_12 : decode cX11_isAlone 12 = .ok (.if_icmp .ne 7, 3) := by decide +kernel
theorem dX11_isAlone_15 : decode cX11_isAlone 15 = .ok (.iconst 1, 1) := by decide +kernel
theorem dX11_isAlone_16 : decode cX11_isAlone 16 = .ok (.goto 4, 3) := by decide +kernel
theorem dX11_isAlone_19 : decode cX11_isAlone 19 = .ok (.iconst 0, 1) := by decide +kernel
theorem dX11_isAlone_20 : decode cX11_isAlone 20 = .ok (.ireturn, 1) := by decide +kernel
noncomputable def f_X11_isAlone (a0 : Nat) (l1 : Int32) (μ : Mm) : Option Int32 :=
  if (mm_K μ a0).1 = 12 then (gf_P 12 12 a0 μ).bind fun x1 => (ga_I x1 (7 : Int32) μ).bind fun x6 => if ((x6 >>> (l1 &&& 31)) &&& (1 : Int32)) = (1 : Int32) then some (1 : Int32) else some (0 : Int32) else none
abbrev Rn_X11_isAlone (G : Gv) (Q : Option Value → Mm → Prop) (pc : Nat) (lv : List (Nat × Value)) (st : List Value) (μ : Mm) : Prop := Rn G RX11 cX11_isAlone 2 (some .boolean) "isAlone" (rmd 0 0 0) (Zm G 0 0 Q) 0 0 pc lv st μ
set_option maxRecDepth 100000 in
set_option maxHeartbeats 4000000 in
theorem m_X11_isAlone {G : Gv} (a0 : Nat) (l1 : Int32) (μ : Mm) {r : Int32} (hx : f_X11_isAlone a0 l1 μ = some r) : Mt G yX11_isAlone cX11_isAlone 2 (some .boolean) 0 0 0 [.ref a0, .int l1] μ (fun v μ' => v = some (.int r) ∧ μ' = μ) := by
  refine Mt.of (by decide) (Nat.le_of_ble_eq_true rfl) ?_
  show Rn_X11_isAlone G (fun v μ' => v = some (.int r) ∧ μ' = μ) 0 [(0, .ref a0), (1, .int l1)] [] μ
  obtain ⟨_, h⟩ := Sat_ifp (show Sat (f_X11_isAlone a0 l1 μ) (fun x => x = r) from ⟨_, hx, rfl⟩)
  refine r_aload_n dX11_isAlone_0 0 rfl ?_
  obtain ⟨x1, e1, h⟩ := Sat_bind h
  refine r_getP fk_X11_17 rfl e1 dX11_isAlone_1 ?_
  refine r_bipush (v := 7) dX11_isAlone_4 (by decide) ?_
  obtain ⟨x6, e6, h⟩ := Sat_bind h
  refine r_iaload e6 dX11_isAlone_6 ?_
  refine r_iload_n dX11_isAlone_7 1 rfl ?_
  refine r_ishr dX11_isAlone_8 ?_
  refine r_iconst (v := 1) dX11_isAlone_9 (by decide) ?_
  refine r_iand dX11_isAlone_10 ?_
  refine r_iconst (v := 1) dX11_isAlone_11 (by decide) ?_
  refine r_icmp_ne 19 dX11_isAlone_12 (by decide) (fun c12 => ?_) (fun c12 => ?_)
  · have h := Sat_neg c12 h
    refine r_iconst (v := 0) dX11_isAlone_19 (by decide) ?_
    exact r_zreturn rfl (by decide) (by rw [← Sat_eq h]; exact ⟨rfl, rfl⟩) dX11_isAlone_20
  · have h := Sat_pos c12 h
    refine r_iconst (v := 1) dX11_isAlone_15 (by decide) ?_
    refine r_goto 20 dX11_isAlone_16 (by decide) ?_
    exact r_zreturn rfl (by decide) (by rw [← Sat_eq h]; exact ⟨rfl, rfl⟩) dX11_isAlone_20
theorem dX11_makeTurnings_0 : decode cX11_makeTurnings 0 = .ok (.iload_n 1, 1) := by decide +kernel
theorem dX11_makeTurnings_1 : decode cX11_makeTurnings 1 = .ok (.aload_n 0, 1) := by decide +kernel
theorem dX11_makeTurnings_2 : decode cX11_makeTurnings 2 = .ok (.getfield 17, 3) := by decide +kernel
theorem dX11_makeTurnings_5 : decode cX11_makeTurnings 5 = .ok (.iconst 0, 1) := by decide +kernel
theorem dX11_makeTurnings_6 : decode cX11_makeTurnings 6 = .ok (.iaload, 1) := by decide +kernel
theorem dX11_makeTurnings_7 : decode cX11_makeTurnings 7 = .ok (.if_icmp .ne 24, 3) := by decide +kernel
theorem dX11_makeTurnings_10 : decode cX11_makeTurnings 10 = .ok (.aload_n 0, 1) := by decide +kernel
theorem dX11_makeTurnings_11 : decode cX11_makeTurnings 11 = .ok (.getfield 73, 3) := by decide +kernel
theorem dX11_makeTurnings_14 : decode cX11_makeTurnings 14 = .ok (.aload_n 0, 1) := by decide +kernel
theorem dX11_makeTurnings_15 : decode cX11_makeTurnings 15 = .ok (.getfield 234, 3) := by decide +kernel
theorem dX11_makeTurnings_18 : decode cX11_makeTurnings 18 = .ok (.lload_n 3, 1) := by decide +kernel
theorem dX11_makeTurnings_19 : decode cX11_makeTurnings 19 = .ok (.lastore, 1) := by decide +kernel
theorem dX11_makeTurnings_20 : decode cX11_makeTurnings 20 = .ok (.aload_n 0, 1) := by decide +kernel
theorem dX11_makeTurnings_21 : decode cX11_makeTurnings 21 = .ok (.dup, 1) := by decide +kernel
theorem dX11_makeTurnings_22 : decode cX11_makeTurnings 22 = .ok (.getfield 234, 3) := by decide +kernel
theorem dX11_makeTurnings_25 : decode cX11_makeTurnings 25 = .ok (.iconst 1, 1) := by decide +kernel
theorem dX11_makeTurnings_26 : decode cX11_makeTurnings 26 = .ok (.iadd, 1) := by decide +kernel
theorem dX11_makeTurnings_27 : decode cX11_makeTurnings 27 = .ok (.putfield 234, 3) := by decide +kernel
theorem dX11_makeTurnings_30 : decode cX11_makeTurnings 30 = .ok (.return_, 1) := by decide +kernel
theorem dX11_makeTurnings_31 : decode cX11_makeTurnings 31 = .ok (.aload_n 0, 1) := by decide +kernel
theorem dX11_makeTurnings_32 : decode cX11_makeTurnings 32 = .ok (.iload_n 1, 1) := by decide +kernel
theorem dX11_makeTurnings_33 : decode cX11_makeTurnings 33 = .ok (.invokevirtual 312, 3) := by decide +kernel
theorem dX11_makeTurnings_36 : decode cX11_makeTurnings 36 = .ok (.ifCond .eq 21, 3) := by decide +kernel
theorem dX11_makeTurnings_39 : decode cX11_makeTurnings 39 = .ok (.aload_n 0, 1) := by decide +kernel
theorem dX11_makeTurnings_40 : decode cX11_makeTurnings 40 = .ok (.iload_n 1, 1) := by decide +kernel
theorem dX11_makeTurnings_41 : decode cX11_makeTurnings 41 = .ok (.iconst 1, 1) := by decide +kernel
theorem dX11_makeTurnings_42 : decode cX11_makeTurnings 42 = .ok (.iadd, 1) := by decide +kernel
theorem dX11_makeTurnings_43 : decode cX11_makeTurnings 43 = .ok (.iload_n 2, 1) := by decide +kernel
theorem dX11_makeTurnings_44 : decode cX11_makeTurnings 44 = .ok (.lload_n 3, 1) := by decide +kernel
theorem dX11_makeTurnings_45 : decode cX11_makeTurnings 45 = .ok (.ldc2_w 318, 3) := by decide +kernel
theorem dX11_makeTurnings_48 : decode cX11_makeTurnings 48 = .ok (.iconst 4, 1) := by decide +kernel
theorem dX11_makeTurnings_49 : decode cX11_makeTurnings 49 = .ok (.iload_n 1, 1) := by decide +kernel
theorem dX11_makeTurnings_50 : decode cX11_makeTurnings 50 = .ok (.imul, 1) := by decide +kernel
theorem dX11_makeTurnings_51 : decode cX11_makeTurnings 51 = .ok (.lshl, 1) := by decide +kernel
theorem dX11_makeTurnings_52 : decode cX11_makeTurnings 52 = .ok (.lor, 1) := by decide +kernel
theorem dX11_makeTurnings_53 : decode cX11_makeTurnings 53 = .ok (.invokevirtual 237, 3) := by decide +kernel
theorem dX11_makeTurnings_56 : decode cX11_makeTurnings 56 = .ok (.return_, 1) := by decide +kernel
theorem dX11_makeTurnings_57 : decode cX11_makeTurnings 57 = .ok (.iconst 0, 1) := by decide +kernel
theorem dX11_makeTurnings_58 : decode cX11_makeTurnings 58 = .ok (.istore 5, 2) := by decide +kernel
theorem dX11_makeTurnings_60 : decode cX11_makeTurnings 60 = .ok (.iload 5, 2) := by decide +kernel
theorem dX11_makeTurnings_62 : decode cX11_makeTurnings 62 = .ok (.aload_n 0, 1) := by decide +kernel
theorem dX11_makeTurnings_63 : decode cX11_makeTurnings 63 = .ok (.getfield 17, 3) := by decide +kernel
theorem dX11_makeTurnings_66 : decode cX11_makeTurnings 66 = .ok (.iconst 0, 1) := by decide +kernel
theorem dX11_makeTurnings_67 : decode cX11_makeTurnings 67 = .ok (.iaload, 1) := by decide +kernel
theorem dX11_makeTurnings_68 : decode cX11_makeTurnings 68 = .ok (.if_icmp .ge 89, 3) := by decide +kernel
theorem dX11_makeTurnings_71 : decode cX11_makeTurnings 71 = .ok (.iload 5, 2) := by decide +kernel
theorem dX11_makeTurnings_73 : decode cX11_makeTurnings 73 = .ok (.iload_n 1, 1) := by decide +kernel
theorem dX11_makeTurnings_74 : decode cX11_makeTurnings 74 = .ok (.if_icmp .eq 47, 3) := by decide +kernel
theorem dX11_makeTurnings_77 : decode cX11_makeTurnings 77 = .ok (.aload_n 0, 1) := by decide +kernel
theorem dX11_makeTurnings_78 : decode cX11_makeTurnings 78 = .ok (.iload 5, 2) := by decide +kernel
theorem dX11_makeTurnings_80 : decode cX11_makeTurnings 80 = .ok (.invokevirtual 312, 3) := by decide +kernel
theorem dX11_makeTurnings_83 : decode cX11_makeTurnings 83 = .ok (.ifCond .ne 38, 3) := by decide +kernel
theorem dX11_makeTurnings_86 : decode cX11_makeTurnings 86 = .ok (.iload_n 2, 1) := by decide +kernel
theorem dX11_makeTurnings_87 : decode cX11_makeTurnings 87 = .ok (.iload 5, 2) := by decide +kernel
theorem dX11_makeTurnings_89 : decode cX11_makeTurnings 89 = .ok (.ishr, 1) := by decide +kernel
theorem dX11_makeTurnings_90 : decode cX11_makeTurnings 90 = .ok (.iconst 1, 1) := by decide +kernel
theorem dX11_makeTurnings_91 : decode cX11_makeTurnings 91 = .ok (.iand, 1) := by decide +kernel
theorem dX11_makeTurnings_92 : decode cX11_makeTurnings 92 = .ok (.ifCond .ne 29, 3) := by decide +kernel
theorem dX11_makeTurnings_95 : decode cX11_makeTurnings 95 = .ok (.aload_n 0, 1) := by decide +kernel
theorem dX11_makeTurnings_96 : decode cX11_makeTurnings 96 = .ok (.getfield 25, 3) := by decide +kernel
theorem dX11_makeTurnings_99 : decode cX11_makeTurnings 99 = .ok (.iload_n 1, 1) := by decide +kernel
theorem dX11_makeTurnings_100 : decode cX11_makeTurnings 100 = .ok (.iaload, 1) := by decide +kernel
theorem dX11_makeTurnings_101 : decode cX11_makeTurnings 101 = .ok (.ifCond .eq 16, 3) := by decide +kernel
theorem dX11_makeTurnings_104 : decode cX11_makeTurnings 104 = .ok (.aload_n 0, 1) := by decide +kernel
theorem dX11_makeTurnings_105 : decode cX11_makeTurnings 105 = .ok (.getfield 25, 3) := by decide +kernel
theorem dX11_makeTurnings_108 : decode cX11_makeTurnings 108 = .ok (.iload_n 1, 1) := by decide +kernel
theorem dX11_makeTurnings_109 : decode cX11_makeTurnings 109 = .ok (.iaload, 1) := by decide +kernel
theorem dX11_makeTurnings_110 : decode cX11_makeTurnings 110 = .ok (.iload 5, 2) := by decide +kernel
theorem dX11_makeTurnings_112 : decode cX11_makeTurnings 112 = .ok (.iconst 1, 1) := by decide +kernel
theorem dX11_makeTurnings_113 : decode cX11_makeTurnings 113 = .ok (.iadd, 1) := by decide +kernel
theorem dX11_makeTurnings_114 : decode cX11_makeTurnings 114 = .ok (.if_icmp .ne 7, 3) := by decide +kernel
theorem dX11_makeTurnings_117 : decode cX11_makeTurnings 117 = .ok (.iconst 1, 1) := by decide +kernel
theorem dX11_makeTurnings_118 : decode cX11_makeTurnings 118 = .ok (.goto 4, 3) := by decide +kernel
theorem dX11_makeTurnings_121 : decode cX11_makeTurnings 121 = .ok (.iconst 0, 1) := by decide +kernel
theorem dX11_makeTurnings_122 : decode cX11_makeTurnings 122 = .ok (.istore 6, 2) := by decide +kernel
theorem dX11_makeTurnings_124 : decode cX11_makeTurnings 124 = .ok (.iload 6, 2) := by decide +kernel
theorem dX11_makeTurnings_126 : decode cX11_makeTurnings 126 = .ok (.ifCond .eq 25, 3) := by decide +kernel
theorem dX11_makeTurnings_129 : decode cX11_makeTurnings 129 = .ok (.aload_n 0, 1) := by decide +kernel
theorem dX11_makeTurnings_130 : decode cX11_makeTurnings 130 = .ok (.iload_n 1, 1) := by decide +kernel
theorem dX11_makeTurnings_131 : decode cX11_makeTurnings 131 = .ok (.iconst 1, 1) := by decide +kernel
theorem dX11_makeTurnings_132 : decode cX11_makeTurnings 132 = .ok (.iadd, 1) := by decide +kernel
theorem dX11_makeTurnings_133 : decode cX11_makeTurnings 133 = .ok (.iload_n 2, 1) := by decide +kernel
theorem dX11_makeTurnings_134 : decode cX11_makeTurnings 134 = .ok (.iconst 1, 1) := by decide +kernel
theorem dX11_makeTurnings_135 : decode cX11_makeTurnings 135 = .ok (.iload 5, 2) := by decide +kernel
theorem dX11_makeTurnings_137 : decode cX11_makeTurnings 137 = .ok (.ishl, 1) := by decide +kernel
theorem dX11_makeTurnings_138 : decode cX11_makeTurnings 138 = .ok (.ior, 1) := by decide +kernel
theorem dX11_makeTurnings_139 : decode cX11_makeTurnings 139 = .ok (.lload_n 3, 1) := by decide +kernel
theorem dX11_makeTurnings_140 : decode cX11_makeTurnings 140 = .ok (.iload 5, 2) := by decide +kernel
theorem dX11_makeTurnings_142 : decode cX11_makeTurnings 142 = .ok (.i2l, 1) := by decide +kernel
theorem dX11_makeTurnings_143 : decode cX11_makeTurnings 143 = .ok (.iconst 4, 1) := by decide +kernel
theorem dX11_makeTurnings_144 : decode cX11_makeTurnings 144 = .ok (.iload_n 1, 1) := by decide +kernel
theorem dX11_makeTurnings_145 : decode cX11_makeTurnings 145 = .ok (.imul, 1) := by decide +kernel
theorem dX11_makeTurnings_146 : decode cX11_makeTurnings 146 = .ok (.lshl, 1) := by decide +kernel
theorem dX11_makeTurnings_147 : decode cX11_makeTurnings 147 = .ok (.lor, 1) := by decide +kernel
theorem dX11_makeTurnings_148 : decode cX11_makeTurnings 148 = .ok (.invokevirtual 237, 3) := by decide +kernel
theorem dX11_makeTurnings_151 : decode cX11_makeTurnings 151 = .ok (.iinc 5 1, 3) := by decide +kernel
theorem dX11_makeTurnings_154 : decode cX11_makeTurnings 154 = .ok (.goto (-94), 3) := by decide +kernel
theorem dX11_makeTurnings_157 : decode cX11_makeTurnings 157 = .ok (.return_, 1) := by decide +kernel
noncomputable def f_X11_makeTurnings_J151 (self : Nat → Int32 → Int32 → Int64 → Mm → Option Mm) (a0 : Nat) (l1 : Int32) (l2 : Int32) (l3 : Int64) (l5 : Int32) (μ : Mm) : Option ((Int32 × Mm) ⊕ (Mm)) :=
  (some (l5 + (1 : Int32))).bind fun v151 => some (.inl (v151, μ))
noncomputable def f_X11_makeTurnings_J122 (self : Nat → Int32 → Int32 → Int64 → Mm → Option Mm) (a0 : Nat) (l1 : Int32) (l2 : Int32) (l3 : Int64) (l5 : Int32) (k0 : Int32) (μ : Mm) : Option ((Int32 × Mm) ⊕ (Mm)) :=
  if k0 = 0 then f_X11_makeTurnings_J151 self a0 l1 l2 l3 l5 μ else (self a0 (l1 + (1 : Int32)) (l2 ||| ((1 : Int32) <<< (l5 &&& 31))) (l3 ||| (l5.toInt64 <<< (((4 : Int32) * l1).toInt64 &&& 63))) μ).bind fun x148 => f_X11_makeTurnings_J151 self a0 l1 l2 l3 l5 x148
noncomputable def f_X11_makeTurnings_J121 (self : Nat → Int32 → Int32 → Int64 → Mm → Option Mm) (a0 : Nat) (l1 : Int32) (l2 : Int32) (l3 : Int64) (l5 : Int32) (μ : Mm) : Option ((Int32 × Mm) ⊕ (Mm)) :=
  f_X11_makeTurnings_J122 self a0 l1 l2 l3 l5 (0 : Int32) μ
noncomputable def f_X11_makeTurnings_J117 (self : Nat → Int32 → Int32 → Int64 → Mm → Option Mm) (a0 : Nat) (l1 : Int32) (l2 : Int32) (l3 : Int64) (l5 : Int32) (μ : Mm) : Option ((Int32 × Mm) ⊕ (Mm)) :=
  f_X11_makeTurnings_J122 self a0 l1 l2 l3 l5 (1 : Int32) μ
noncomputable def f_X11_makeTurnings_L60 (self : Nat → Int32 → Int32 → Int64 → Mm → Option Mm) (a0 : Nat) (l1 : Int32) (l2 : Int32) (l3 : Int64) (s60 : Int32 × Mm) : Option ((Int32 × Mm) ⊕ (Mm)) :=
  (gf_P 12 12 a0 s60.2).bind fun x63 => (ga_I x63 (0 : Int32) s60.2).bind fun x67 => if x67 ≤ s60.1 then some (.inr s60.2) else if s60.1 = l1 then f_X11_makeTurnings_J121 self a0 l1 l2 l3 s60.1 s60.2 else (f_X11_isAlone a0 s60.1 s60.2).bind fun x80 => if x80 = 0 then if ((l2 >>> (s60.1 &&& 31)) &&& (1 : Int32)) = 0 then (gf_P 12 14 a0 s60.2).bind fun x96 => (ga_I x96 l1 s60.2).bind fun x100 => if x100 = 0 then f_X11_makeTurnings_J117 self a0 l1 l2 l3 s60.1 s60.2 else (gf_P 12 14 a0 s60.2).bind fun x105 => (ga_I x105 l1 s60.2).bind fun x109 => if x109 = (s60.1 + (1 : Int32)) then f_X11_makeTurnings_J117 self a0 l1 l2 l3 s60.1 s60.2 else f_X11_makeTurnings_J121 self a0 l1 l2 l3 s60.1 s60.2 else f_X11_makeTurnings_J121 self a0 l1 l2 l3 s60.1 s60.2 else f_X11_makeTurnings_J121 self a0 l1 l2 l3 s60.1 s60.2
noncomputable def f_X11_makeTurnings_B (self : Nat → Int32 → Int32 → Int64 → Mm → Option Mm) (a0 : Nat) (l1 : Int32) (l2 : Int32) (l3 : Int64) (μ : Mm) : Option Mm :=
  if (mm_K μ a0).1 = 12 then (gf_P 12 12 a0 μ).bind fun x2 => (ga_I x2 (0 : Int32) μ).bind fun x6 => if l1 = x6 then (gf_P 12 34 a0 μ).bind fun x11 => (gf_I 12 32 a0 μ).bind fun x15 => (pa_L x11 x15 l3 μ).bind fun μ19 => (gf_I 12 32 a0 μ19).bind fun x22 => (pf_I 12 32 a0 (x22 + (1 : Int32)) μ19).bind fun μ27 => some μ27 else (f_X11_isAlone a0 l1 μ).bind fun x33 => if x33 = 0 then (whl (f_X11_makeTurnings_L60 self a0 l1 l2 l3) ((0 : Int32), μ)).bind (fun b60 => some b60) else (self a0 (l1 + (1 : Int32)) l2 (l3 ||| ((15 : Int64) <<< (((4 : Int32) * l1).toInt64 &&& 63))) μ).bind fun x53 => some x53 else none
noncomputable def f_X11_makeTurnings : Nat → Nat → Int32 → Int32 → Int64 → Mm → Option Mm
  | 0 => fun _ _ _ _ _ => none
  | n + 1 => f_X11_makeTurnings_B (f_X11_makeTurnings n)
abbrev Rn_X11_makeTurnings (G : Gv) (Q : Option Value → Mm → Prop) (dd : Nat) (pc : Nat) (lv : List (Nat × Value)) (st : List Value) (μ : Mm) : Prop := Rn G RX11 cX11_makeTurnings 7 none "makeTurnings" (rmd (1 + dd) 0 0) (Zm G 0 0 Q) 0 0 pc lv st μ
theorem kd_X11_makeTurnings {n : Nat} {a0 : Nat} {l1 : Int32} {l2 : Int32} {l3 : Int64} {μ : Mm} {r : Mm} (h : f_X11_makeTurnings n a0 l1 l2 l3 μ = some r) : (mm_K μ a0).1 = 12 := by
  cases n with
  | zero => cases h
  | succ n => exact kd_of h
set_option maxRecDepth 100000 in
set_option maxHeartbeats 4000000 in
theorem m_X11_makeTurnings {G : Gv} : ∀ (nn : Nat) (a0 : Nat) (l1 : Int32) (l2 : Int32) (l3 : Int64) (μ : Mm) {r : Mm} (hx : f_X11_makeTurnings nn a0 l1 l2 l3 μ = some r), Mt G yX11_makeTurnings cX11_makeTurnings 7 none (1 + nn) 0 0 [.ref a0, .int l1, .int l2, .long l3] μ (fun v μ' => v = none ∧ μ' = r) := by
  intro nn
  induction nn with
  | zero => intro a0 l1 l2 l3 μ r hx; cases hx
  | succ nn ih =>
    intro a0 l1 l2 l3 μ r hx
    obtain ⟨dd, hdd⟩ : ∃ dd, dd = nn + 1 := ⟨_, rfl⟩
    rw [← hdd]
    refine Mt.of (by decide) (Nat.le_of_ble_eq_true rfl) ?_
    show Rn_X11_makeTurnings G (fun v μ' => v = none ∧ μ' = r) dd 0 [(0, .ref a0), (1, .int l1), (2, .int l2), (3, .long l3)] [] μ
    obtain ⟨_, h⟩ := Sat_ifp (show Sat (f_X11_makeTurnings (nn + 1) a0 l1 l2 l3 μ) (fun x => x = r) from ⟨_, hx, rfl⟩)
    refine r_iload_n dX11_makeTurnings_0 1 rfl ?_
    refine r_aload_n dX11_makeTurnings_1 0 rfl ?_
    obtain ⟨x2, e2, h⟩ := Sat_bind h
    refine r_getP fk_X11_17 rfl e2 dX11_makeTurnings_2 ?_
    refine r_iconst (v := 0) dX11_makeTurnings_5 (by decide) ?_
    obtain ⟨x6, e6, h⟩ := Sat_bind h
    refine r_iaload e6 dX11_makeTurnings_6 ?_
    refine r_icmp_ne 31 dX11_makeTurnings_7 (by decide) (fun c7 => ?_) (fun c7 => ?_)
    · have h := Sat_neg c7 h
      refine r_aload_n dX11_makeTurnings_31 0 rfl ?_
      refine r_iload_n dX11_makeTurnings_32 1 rfl ?_
      obtain ⟨x33, e33, h⟩ := Sat_bind h
      refine r_cV (t := 12) [.int l1] [] (m_X11_isAlone a0 l1 μ e33) ck_X11_isAlone lk_X11_312 in_X11_isAlone se_X11_isAlone (kd_of e33) ⟨rfl, by decide, by decide⟩ rfl rfl (Nat.le_of_ble_eq_true rfl) ⟨rm_f (by omega), rm_l (by omega)⟩ ⟨Nat.zero_le _, Nat.zero_le _⟩ dX11_makeTurnings_33 ?_
      refine r_if_eq 57 dX11_makeTurnings_36 (by decide) (fun c36 => ?_) (fun c36 => ?_)
      · have h := Sat_pos c36 h
        refine r_iconst (v := 0) dX11_makeTurnings_57 (by decide) ?_
        refine r_istore (lv' := [(5, .int (0 : Int32)), (0, .ref a0), (1, .int l1), (2, .int l2), (3, .long l3)]) dX11_makeTurnings_58 (by decide) rfl ?_
        refine r_sub (lv' := [(0, .ref a0), (1, .int l1), (2, .int l2), (3, .long l3), (5, .int (0 : Int32))]) [1, 2, 3, 4, 0] rfl ?_
        refine whl_K (s0 := (((0 : Int32), μ) : Int32 × Mm)) (RR := fun (s60 : Int32 × Mm) => Rn_X11_makeTurnings G (fun v μ' => v = none ∧ μ' = r) dd 60 [(0, .ref a0), (1, .int l1), (2, .int l2), (3, .long l3), (5, .int s60.1)] [] s60.2) ?_ (Sat_bindK h)
        intro s60 K60 hI60 hX60 h
        have J151 : ∀ (l5_151 : Int32) (μ_151 : Mm), Sat (f_X11_makeTurnings_J151 (f_X11_makeTurnings nn) a0 l1 l2 l3 l5_151 μ_151) K60 → Rn_X11_makeTurnings G (fun v μ' => v = none ∧ μ' = r) dd 151 [(0, .ref a0), (1, .int l1), (2, .int l2), (3, .long l3), (5, .int l5_151)] [] μ_151 := by
          intro l5_151 μ_151 h
          obtain ⟨v151, e151, h⟩ := Sat_bind h
          refine r_iinc (j := 4) (v := v151) (lv' := [(5, .int v151), (0, .ref a0), (1, .int l1), (2, .int l2), (3, .long l3)]) dX11_makeTurnings_151 rfl (iinc_v e151 (by decide)) (by decide) rfl ?_
          refine r_goto 60 dX11_makeTurnings_154 (by decide) ?_
          exact r_sub [1, 2, 3, 4, 0] rfl (hI60 _ (Sat_some h))
        have J122 : ∀ (l5_122 : Int32) (k0_122 : Int32) (μ_122 : Mm), Sat (f_X11_makeTurnings_J122 (f_X11_makeTurnings nn) a0 l1 l2 l3 l5_122 k0_122 μ_122) K60 → Rn_X11_makeTurnings G (fun v μ' => v = none ∧ μ' = r) dd 122 [(0, .ref a0), (1, .int l1), (2, .int l2), (3, .long l3), (5, .int l5_122)] [.int k0_122] μ_122 := by
          intro l5_122 k0_122 μ_122 h
          refine r_istore (lv' := [(6, .int k0_122), (0, .ref a0), (1, .int l1), (2, .int l2), (3, .long l3), (5, .int l5_122)]) dX11_makeTurnings_122 (by decide) rfl ?_
          refine r_iload dX11_makeTurnings_124 0 rfl ?_
          refine r_if_eq 151 dX11_makeTurnings_126 (by decide) (fun c126 => ?_) (fun c126 => ?_)
          · have h := Sat_pos c126 h
            exact r_sub [1, 2, 3, 4, 5] rfl (J151 l5_122 μ_122 h)
          · have h := Sat_neg c126 h
            refine r_aload_n dX11_makeTurnings_129 1 rfl ?_
            refine r_iload_n dX11_makeTurnings_130 2 rfl ?_
            refine r_iconst (v := 1) dX11_makeTurnings_131 (by decide) ?_
            refine r_iadd dX11_makeTurnings_132 ?_
            refine r_iload_n dX11_makeTurnings_133 3 rfl ?_
            refine r_iconst (v := 1) dX11_makeTurnings_134 (by decide) ?_
            refine r_iload dX11_makeTurnings_135 5 rfl ?_
            refine r_ishl dX11_makeTurnings_137 ?_
            refine r_ior dX11_makeTurnings_138 ?_
            refine r_lload_n dX11_makeTurnings_139 4 rfl ?_
            refine r_iload dX11_makeTurnings_140 5 rfl ?_
            refine r_i2l dX11_makeTurnings_142 ?_
            refine r_iconst (v := 4) dX11_makeTurnings_143 (by decide) ?_
            refine r_iload_n dX11_makeTurnings_144 2 rfl ?_
            refine r_imul dX11_makeTurnings_145 ?_
            refine r_lshl dX11_makeTurnings_146 ?_
            refine r_lor dX11_makeTurnings_147 ?_
            obtain ⟨x148, e148, h⟩ := Sat_bind h
            refine r_cV (t := 12) [.int (l1 + (1 : Int32)), .int (l2 ||| ((1 : Int32) <<< (l5_122 &&& 31))), .long (l3 ||| (l5_122.toInt64 <<< (((4 : Int32) * l1).toInt64 &&& 63)))] [] (ih a0 (l1 + (1 : Int32)) (l2 ||| ((1 : Int32) <<< (l5_122 &&& 31))) (l3 ||| (l5_122.toInt64 <<< (((4 : Int32) * l1).toInt64 &&& 63))) μ_122 e148) ck_X11_makeTurnings lk_X11_237 in_X11_makeTurnings se_X11_makeTurnings (kd_X11_makeTurnings e148) ⟨rfl, by decide, by decide⟩ rfl rfl (Nat.le_of_ble_eq_true rfl) ⟨rm_f (by omega), rm_l (by omega)⟩ ⟨Nat.zero_le _, Nat.zero_le _⟩ dX11_makeTurnings_148 ?_
            exact r_sub [1, 2, 3, 4, 5] rfl (J151 l5_122 x148 h)
        have J121 : ∀ (l5_121 : Int32) (μ_121 : Mm), Sat (f_X11_makeTurnings_J121 (f_X11_makeTurnings nn) a0 l1 l2 l3 l5_121 μ_121) K60 → Rn_X11_makeTurnings G (fun v μ' => v = none ∧ μ' = r) dd 121 [(0, .ref a0), (1, .int l1), (2, .int l2), (3, .long l3), (5, .int l5_121)] [] μ_121 := by
          intro l5_121 μ_121 h
          refine r_iconst (v := 0) dX11_makeTurnings_121 (by decide) ?_
          exact r_sub [0, 1, 2, 3, 4] rfl (J122 l5_121 (0 : Int32) μ_121 h)
        have J117 : ∀ (l5_117 : Int32) (μ_117 : Mm), Sat (f_X11_makeTurnings_J117 (f_X11_makeTurnings nn) a0 l1 l2 l3 l5_117 μ_117) K60 → Rn_X11_makeTurnings G (fun v μ' => v = none ∧ μ' = r) dd 117 [(0, .ref a0), (1, .int l1), (2, .int l2), (3, .long l3), (5, .int l5_117)] [] μ_117 := by
          intro l5_117 μ_117 h
          refine r_iconst (v := 1) dX11_makeTurnings_117 (by decide) ?_
          refine r_goto 122 dX11_makeTurnings_118 (by decide) ?_
          exact r_sub [0, 1, 2, 3, 4] rfl (J122 l5_117 (1 : Int32) μ_117 h)
        refine r_iload dX11_makeTurnings_60 4 rfl ?_
        refine r_aload_n dX11_makeTurnings_62 0 rfl ?_
        obtain ⟨x63, e63, h⟩ := Sat_bind h
        refine r_getP fk_X11_17 rfl e63 dX11_makeTurnings_63 ?_
        refine r_iconst (v := 0) dX11_makeTurnings_66 (by decide) ?_
        obtain ⟨x67, e67, h⟩ := Sat_bind h
        refine r_iaload e67 dX11_makeTurnings_67 ?_
        refine r_icmp_ge 157 dX11_makeTurnings_68 (by decide) (fun c68 => ?_) (fun c68 => ?_)
        · have h := Sat_pos c68 h
          have h := hX60 _ (Sat_some h)
          exact r_vreturn rfl (by rw [← Sat_eq h]; exact ⟨rfl, rfl⟩) dX11_makeTurnings_157
        · have h := Sat_neg c68 h
          refine r_iload dX11_makeTurnings_71 4 rfl ?_
          refine r_iload_n dX11_makeTurnings_73 1 rfl ?_
          refine r_icmp_eq 121 dX11_makeTurnings_74 (by decide) (fun c74 => ?_) (fun c74 => ?_)
          · have h := Sat_pos c74 h
            exact r_sub [0, 1, 2, 3, 4] rfl (J121 s60.1 s60.2 h)
          · have h := Sat_neg c74 h
            refine r_aload_n dX11_makeTurnings_77 0 rfl ?_
            refine r_iload dX11_makeTurnings_78 4 rfl ?_
            obtain ⟨x80, e80, h⟩ := Sat_bind h
            refine r_cV (t := 12) [.int s60.1] [] (m_X11_isAlone a0 s60.1 s60.2 e80) ck_X11_isAlone lk_X11_312 in_X11_isAlone se_X11_isAlone (kd_of e80) ⟨rfl, by decide, by decide⟩ rfl rfl (Nat.le_of_ble_eq_true rfl) ⟨rm_f (by omega), rm_l (by omega)⟩ ⟨Nat.zero_le _, Nat.zero_le _⟩ dX11_makeTurnings_80 ?_
            refine r_if_ne 121 dX11_makeTurnings_83 (by decide) (fun c83 => ?_) (fun c83 => ?_)
            · have h := Sat_neg c83 h
              exact r_sub [0, 1, 2, 3, 4] rfl (J121 s60.1 s60.2 h)
            · have h := Sat_pos c83 h
              refine r_iload_n dX11_makeTurnings_86 2 rfl ?_
              refine r_iload dX11_makeTurnings_87 4 rfl ?_
              refine r_ishr dX11_makeTurnings_89 ?_
              refine r_iconst (v := 1) dX11_makeTurnings_90 (by decide) ?_
              refine r_iand dX11_makeTurnings_91 ?_
              refine r_if_ne 121 dX11_makeTurnings_92 (by decide) (fun c92 => ?_) (fun c92 => ?_)
              · have h := Sat_neg c92 h
                exact r_sub [0, 1, 2, 3, 4] rfl (J121 s60.1 s60.2 h)
              · have h := Sat_pos c92 h
                refine r_aload_n dX11_makeTurnings_95 0 rfl ?_
                obtain ⟨x96, e96, h⟩ := Sat_bind h
                refine r_getP fk_X11_25 rfl e96 dX11_makeTurnings_96 ?_
                refine r_iload_n dX11_makeTurnings_99 1 rfl ?_
                obtain ⟨x100, e100, h⟩ := Sat_bind h
                refine r_iaload e100 dX11_makeTurnings_100 ?_
                refine r_if_eq 117 dX11_makeTurnings_101 (by decide) (fun c101 => ?_) (fun c101 => ?_)
                · have h := Sat_pos c101 h
                  exact r_sub [0, 1, 2, 3, 4] rfl (J117 s60.1 s60.2 h)
                · have h := Sat_neg c101 h
                  refine r_aload_n dX11_makeTurnings_104 0 rfl ?_
                  obtain ⟨x105, e105, h⟩ := Sat_bind h
                  refine r_getP fk_X11_25 rfl e105 dX11_makeTurnings_105 ?_
                  refine r_iload_n dX11_makeTurnings_108 1 rfl ?_
                  obtain ⟨x109, e109, h⟩ := Sat_bind h
                  refine r_iaload e109 dX11_makeTurnings_109 ?_
                  refine r_iload dX11_makeTurnings_110 4 rfl ?_
                  refine r_iconst (v := 1) dX11_makeTurnings_112 (by decide) ?_
                  refine r_iadd dX11_makeTurnings_113 ?_
                  refine r_icmp_ne 121 dX11_makeTurnings_114 (by decide) (fun c114 => ?_) (fun c114 => ?_)
                  · have h := Sat_neg c114 h
                    exact r_sub [0, 1, 2, 3, 4] rfl (J121 s60.1 s60.2 h)
                  · have h := Sat_pos c114 h
                    exact r_sub [0, 1, 2, 3, 4] rfl (J117 s60.1 s60.2 h)
      · have h := Sat_neg c36 h
        refine r_aload_n dX11_makeTurnings_39 0 rfl ?_
        refine r_iload_n dX11_makeTurnings_40 1 rfl ?_
        refine r_iconst (v := 1) dX11_makeTurnings_41 (by decide) ?_
        refine r_iadd dX11_makeTurnings_42 ?_
        refine r_iload_n dX11_makeTurnings_43 2 rfl ?_
        refine r_lload_n dX11_makeTurnings_44 3 rfl ?_
        refine r_ldc2 (v := 15) dX11_makeTurnings_45 kc_X11_318 ?_
        refine r_iconst (v := 4) dX11_makeTurnings_48 (by decide) ?_
        refine r_iload_n dX11_makeTurnings_49 1 rfl ?_
        refine r_imul dX11_makeTurnings_50 ?_
        refine r_lshl dX11_makeTurnings_51 ?_
        refine r_lor dX11_makeTurnings_52 ?_
        obtain ⟨x53, e53, h⟩ := Sat_bind h
        refine r_cV (t := 12) [.int (l1 + (1 : Int32)), .int l2, .long (l3 ||| ((15 : Int64) <<< (((4 : Int32) * l1).toInt64 &&& 63)))] [] (ih a0 (l1 + (1 : Int32)) l2 (l3 ||| ((15 : Int64) <<< (((4 : Int32) * l1).toInt64 &&& 63))) μ e53) ck_X11_makeTurnings lk_X11_237 in_X11_makeTurnings se_X11_makeTurnings (kd_X11_makeTurnings e53) ⟨rfl, by decide, by decide⟩ rfl rfl (Nat.le_of_ble_eq_true rfl) ⟨rm_f (by omega), rm_l (by omega)⟩ ⟨Nat.zero_le _, Nat.zero_le _⟩ dX11_makeTurnings_53 ?_
        exact r_vreturn rfl (by rw [← Sat_eq h]; exact ⟨rfl, rfl⟩) dX11_makeTurnings_56
    · have h := Sat_pos c7 h
      refine r_aload_n dX11_makeTurnings_10 0 rfl ?_
      obtain ⟨x11, e11, h⟩ := Sat_bind h
      refine r_getP fk_X11_73 rfl e11 dX11_makeTurnings_11 ?_
      refine r_aload_n dX11_makeTurnings_14 0 rfl ?_
      obtain ⟨x15, e15, h⟩ := Sat_bind h
      refine r_getI fk_X11_234 rfl e15 dX11_makeTurnings_15 ?_
      refine r_lload_n dX11_makeTurnings_18 3 rfl ?_
      obtain ⟨μ19, e19, h⟩ := Sat_bind h
      refine r_lastore e19 dX11_makeTurnings_19 ?_
      refine r_aload_n dX11_makeTurnings_20 0 rfl ?_
      refine r_dup dX11_makeTurnings_21 rfl ?_
      obtain ⟨x22, e22, h⟩ := Sat_bind h
      refine r_getI fk_X11_234 rfl e22 dX11_makeTurnings_22 ?_
      refine r_iconst (v := 1) dX11_makeTurnings_25 (by decide) ?_
      refine r_iadd dX11_makeTurnings_26 ?_
      obtain ⟨μ27, e27, h⟩ := Sat_bind h
      refine r_putI fk_X11_234 rfl rfl e27 dX11_makeTurnings_27 ?_
      exact r_vreturn rfl (by rw [← Sat_eq h]; exact ⟨rfl, rfl⟩) dX11_makeTurnings_30
theorem dX11_settle_0 : decode cX11_settle 0 = .ok (.aload_n 0, 1) := by decide +kernel
theorem dX11_settle_1 : decode cX11_settle 1 = .ok (.getfield 17, 3) := by decide +kernel
theorem dX11_settle_4 : decode cX11_settle 4 = .ok (.bipush 11, 2) := by decide +kernel
theorem dX11_settle_6 : decode cX11_settle 6 = .ok (.invokestatic 230, 3) := by decide +kernel
theorem dX11_settle_9 : decode cX11_settle 9 = .ok (.aload_n 0, 1) := by decide +kernel
theorem dX11_settle_10 : decode cX11_settle 10 = .ok (.getfield 25, 3) := by decide +kernel
theorem dX11_settle_13 : decode cX11_settle 13 = .ok (.bipush 8, 2) := by decide +kernel
theorem dX11_settle_15 : decode cX11_settle 15 = .ok (.invokestatic 230, 3) := by decide +kernel
theorem dX11_settle_18 : decode cX11_settle 18 = .ok (.aload_n 0, 1) := by decide +kernel
theorem dX11_settle_19 : decode cX11_settle 19 = .ok (.getfield 28, 3) := by decide +kernel
theorem dX11_settle_22 : decode cX11_settle 22 = .ok (.bipush 12, 2) := by decide +kernel
theorem dX11_settle_24 : decode cX11_settle 24 = .ok (.invokestatic 230, 3) := by decide +kernel
theorem dX11_settle_27 : decode cX11_settle 27 = .ok (.aload_n 0, 1) := by decide +kernel
theorem dX11_settle_28 : decode cX11_settle 28 = .ok (.getfield 31, 3) := by decide +kernel
theorem dX11_settle_31 : decode cX11_settle 31 = .ok (.bipush 12, 2) := by decide +kernel
theorem dX11_settle_33 : decode cX11_settle 33 = .ok (.invokestatic 230, 3) := by decide +kernel
theorem dX11_settle_36 : decode cX11_settle 36 = .ok (.aload_n 0, 1) := by decide +kernel
theorem dX11_settle_37 : decode cX11_settle 37 = .ok (.getfield 34, 3) := by decide +kernel
theorem dX11_settle_40 : decode cX11_settle 40 = .ok (.bipush 8, 2) := by decide +kernel
theorem dX11_settle_42 : decode cX11_settle 42 = .ok (.invokestatic 230, 3) := by decide +kernel
theorem dX11_settle_45 : decode cX11_settle 45 = .ok (.aload_n 0, 1) := by decide +kernel
theorem dX11_settle_46 : decode cX11_settle 46 = .ok (.getfield 37, 3) := by decide +kernel
theorem dX11_settle_49 : decode cX11_settle 49 = .ok (.bipush 8, 2) := by decide +kernel
theorem dX11_settle_51 : decode cX11_settle 51 = .ok (.invokestatic 230, 3) := by decide +kernel
theorem dX11_settle_54 : decode cX11_settle 54 = .ok (.aload_n 0, 1) := by decide +kernel
theorem dX11_settle_55 : decode cX11_settle 55 = .ok (.getfield 40, 3) := by decide +kernel
theorem dX11_settle_58 : decode cX11_settle 58 = .ok (.bipush 8, 2) := by decide +kernel
theorem dX11_settle_60 : decode cX11_settle 60 = .ok (.invokestatic 230, 3) := by decide +kernel
theorem dX11_settle_63 : decode cX11_settle 63 = .ok (.aload_n 0, 1) := by decide +kernel
theorem dX11_settle_64 : decode cX11_settle 64 = .ok (.getfield 43, 3) := by decide +kernel
theorem dX11_settle_67 : decode cX11_settle 67 = .ok (.bipush 8, 2) := by decide +kernel
theorem dX11_settle_69 : decode cX11_settle 69 = .ok (.invokestatic 230, 3) := by decide +kernel
theorem dX11_settle_72 : decode cX11_settle 72 = .ok (.aload_n 0, 1) := by decide +kernel
theorem dX11_settle_73 : decode cX11_settle 73 = .ok (.getfield 46, 3) := by decide +kernel
theorem dX11_settle_76 : decode cX11_settle 76 = .ok (.bipush 8, 2) := by decide +kernel
theorem dX11_settle_78 : decode cX11_settle 78 = .ok (.invokestatic 230, 3) := by decide +kernel
theorem dX11_settle_81 : decode cX11_settle 81 = .ok (.aload_n 0, 1) := by decide +kernel
theorem dX11_settle_82 : decode cX11_settle 82 = .ok (.getfield 49, 3) := by decide +kernel
theorem dX11_settle_85 : decode cX11_settle 85 = .ok (.bipush 8, 2) := by decide +kernel
theorem dX11_settle_87 : decode cX11_settle 87 = .ok (.invokestatic 230, 3) := by decide +kernel
theorem dX11_settle_90 : decode cX11_settle 90 = .ok (.aload_n 0, 1) := by decide +kernel
theorem dX11_settle_91 : decode cX11_settle 91 = .ok (.getfield 52, 3) := by decide +kernel
theorem dX11_settle_94 : decode cX11_settle 94 = .ok (.bipush 8, 2) := by decide +kernel
theorem dX11_settle_96 : decode cX11_settle 96 = .ok (.invokestatic 230, 3) := by decide +kernel
theorem dX11_settle_99 : decode cX11_settle 99 = .ok (.aload_n 0, 1) := by decide +kernel
theorem dX11_settle_100 : decode cX11_settle 100 = .ok (.getfield 55, 3) := by decide +kernel
theorem dX11_settle_103 : decode cX11_settle 103 = .ok (.bipush 8, 2) := by decide +kernel
theorem dX11_settle_105 : decode cX11_settle 105 = .ok (.invokestatic 230, 3) := by decide +kernel
theorem dX11_settle_108 : decode cX11_settle 108 = .ok (.aload_n 0, 1) := by decide +kernel
theorem dX11_settle_109 : decode cX11_settle 109 = .ok (.getfield 58, 3) := by decide +kernel
theorem dX11_settle_112 : decode cX11_settle 112 = .ok (.bipush 8, 2) := by decide +kernel
theorem dX11_settle_114 : decode cX11_settle 114 = .ok (.invokestatic 230, 3) := by decide +kernel
theorem dX11_settle_117 : decode cX11_settle 117 = .ok (.aload_n 0, 1) := by decide +kernel
theorem dX11_settle_118 : decode cX11_settle 118 = .ok (.getfield 61, 3) := by decide +kernel
theorem dX11_settle_121 : decode cX11_settle 121 = .ok (.bipush 8, 2) := by decide +kernel
theorem dX11_settle_123 : decode cX11_settle 123 = .ok (.invokestatic 230, 3) := by decide +kernel
theorem dX11_settle_126 : decode cX11_settle 126 = .ok (.aload_n 0, 1) := by decide +kernel
theorem dX11_settle_127 : decode cX11_settle 127 = .ok (.getfield 64, 3) := by decide +kernel
theorem dX11_settle_130 : decode cX11_settle 130 = .ok (.bipush 8, 2) := by decide +kernel
theorem dX11_settle_132 : decode cX11_settle 132 = .ok (.invokestatic 230, 3) := by decide +kernel
theorem dX11_settle_135 : decode cX11_settle 135 = .ok (.aload_n 0, 1) := by decide +kernel
theorem dX11_settle_136 : decode cX11_settle 136 = .ok (.getfield 67, 3) := by decide +kernel
theorem dX11_settle_139 : decode cX11_settle 139 = .ok (.bipush 8, 2) := by decide +kernel
theorem dX11_settle_141 : decode cX11_settle 141 = .ok (.invokestatic 230, 3) := by decide +kernel
theorem dX11_settle_144 : decode cX11_settle 144 = .ok (.aload_n 0, 1) := by decide +kernel
theorem dX11_settle_145 : decode cX11_settle 145 = .ok (.getfield 70, 3) := by decide +kernel
theorem dX11_settle_148 : decode cX11_settle 148 = .ok (.bipush 8, 2) := by decide +kernel
theorem dX11_settle_150 : decode cX11_settle 150 = .ok (.invokestatic 230, 3) := by decide +kernel
theorem dX11_settle_153 : decode cX11_settle 153 = .ok (.aload_n 0, 1) := by decide +kernel
theorem dX11_settle_154 : decode cX11_settle 154 = .ok (.iconst 0, 1) := by decide +kernel
theorem dX11_settle_155 : decode cX11_settle 155 = .ok (.putfield 234, 3) := by decide +kernel
theorem dX11_settle_158 : decode cX11_settle 158 = .ok (.aload_n 0, 1) := by decide +kernel
theorem dX11_settle_159 : decode cX11_settle 159 = .ok (.iconst 0, 1) := by decide +kernel
theorem dX11_settle_160 : decode cX11_settle 160 = .ok (.iconst 0, 1) := by decide +kernel
theorem dX11_settle_161 : decode cX11_settle 161 = .ok (.lconst 0, 1) := by decide +kernel
theorem dX11_settle_162 : decode cX11_settle 162 = .ok (.invokevirtual 237, 3) := by decide +kernel
theorem dX11_settle_165 : decode cX11_settle 165 = .ok (.aload_n 0, 1) := by decide +kernel
theorem dX11_settle_166 : decode cX11_settle 166 = .ok (.iconst 0, 1) := by decide +kernel
theorem dX11_settle_167 : decode cX11_settle 167 = .ok (.putfield 241, 3) := by decide +kernel
theorem dX11_settle_170 : decode cX11_settle 170 = .ok (.aload_n 0, 1) := by decide +kernel
theorem dX11_settle_171 : decode cX11_settle 171 = .ok (.iconst 0, 1) := by decide +kernel
theorem dX11_settle_172 : decode cX11_settle 172 = .ok (.putfield 244, 3) := by decide +kernel
theorem dX11_settle_175 : decode cX11_settle 175 = .ok (.aload_n 0, 1) := by decide +kernel
theorem dX11_settle_176 : decode cX11_settle 176 = .ok (.iconst 0, 1) := by decide +kernel
theorem dX11_settle_177 : decode cX11_settle 177 = .ok (.putfield 247, 3) := by decide +kernel
theorem dX11_settle_180 : decode cX11_settle 180 = .ok (.aload_n 0, 1) := by decide +kernel
theorem dX11_settle_181 : decode cX11_settle 181 = .ok (.iconst 0, 1) := by decide +kernel
theorem dX11_settle_182 : decode cX11_settle 182 = .ok (.putfield 250, 3) := by decide +kernel
theorem dX11_settle_185 : decode cX11_settle 185 = .ok (.aload_n 0, 1) := by decide +kernel
theorem dX11_settle_186 : decode cX11_settle 186 = .ok (.iconst 0, 1) := by decide +kernel
theorem dX11_settle_187 : decode cX11_settle 187 = .ok (.putfield 253, 3) := by decide +kernel
theorem dX11_settle_190 : decode cX11_settle 190 = .ok (.iconst 0, 1) := by decide +kernel
theorem dX11_settle_191 : decode cX11_settle 191 = .ok (.istore_n 1, 1) := by decide +kernel
theorem dX11_settle_192 : decode cX11_settle 192 = .ok (.iload_n 1, 1) := by decide +kernel
theorem dX11_settle_193 : decode cX11_settle 193 = .ok (.iconst 3, 1) := by decide +kernel
theorem dX11_settle_194 : decode cX11_settle 194 = .ok (.if_icmp .ge 16, 3) := by decide +kernel
theorem dX11_settle_197 : decode cX11_settle 197 = .ok (.aload_n 0, 1) := by decide +kernel
theorem dX11_settle_198 : decode cX11_settle 198 = .ok (.getfield 145, 3) := by decide +kernel
theorem dX11_settle_201 : decode cX11_settle 201 = .ok (.iload_n 1, 1) := by decide +kernel
theorem dX11_settle_202 : decode cX11_settle 202 = .ok (.iconst 0, 1) := by decide +kernel
theorem dX11_settle_203 : decode cX11_settle 203 = .ok (.bastore, 1) := by decide +kernel
theorem dX11_settle_204 : decode cX11_settle 204 = .ok (.iinc 1 1, 3) := by decide +kernel
theorem dX11_settle_207 : decode cX11_settle 207 = .ok (.goto (-15), 3) := by decide +kernel
theorem dX11_settle_210 : decode cX11_settle 210 = .ok (.return_, 1) := by decide +kernel
noncomputable def f_X11_settle_L192 (a0 : Nat) (s192 : Int32 × Mm) : Option ((Int32 × Mm) ⊕ (Mm)) :=
  if (3 : Int32) ≤ s192.1 then some (.inr s192.2) else (gf_P 12 72 a0 s192.2).bind fun x198 => (pa_Z x198 s192.1 (0 : Int32) s192.2).bind fun μ203 => (some (s192.1 + (1 : Int32))).bind fun v204 => some (.inl (v204, μ203))
noncomputable def f_X11_settle (a0 : Nat) (μ : Mm) : Option Mm :=
  if (mm_K μ a0).1 = 12 then (gf_P 12 12 a0 μ).bind fun x1 => (f_X11_comes x1 (11 : Int32) μ).bind fun x6 => (gf_P 12 14 a0 x6).bind fun x10 => (f_X11_comes x10 (8 : Int32) x6).bind fun x15 => (gf_P 12 15 a0 x15).bind fun x19 => (f_X11_comes x19 (12 : Int32) x15).bind fun x24 => (gf_P 12 16 a0 x24).bind fun x28 => (f_X11_comes x28 (12 : Int32) x24).bind fun x33 => (gf_P 12 17 a0 x33).bind fun x37 => (f_X11_comes x37 (8 : Int32) x33).bind fun x42 => (gf_P 12 18 a0 x42).bind fun x46 => (f_X11_comes x46 (8 : Int32) x42).bind fun x51 => (gf_P 12 19 a0 x51).bind fun x55 => (f_X11_comes x55 (8 : Int32) x51).bind fun x60 => (gf_P 12 20 a0 x60).bind fun x64 => (f_X11_comes x64 (8 : Int32) x60).bind fun x69 => (gf_P 12 21 a0 x69).bind fun x73 => (f_X11_comes x73 (8 : Int32) x69).bind fun x78 => (gf_P 12 22 a0 x78).bind fun x82 => (f_X11_comes x82 (8 : Int32) x78).bind fun x87 => (gf_P 12 23 a0 x87).bind fun x91 => (f_X11_comes x91 (8 : Int32) x87).bind fun x96 => (gf_P 12 24 a0 x96).bind fun x100 => (f_X11_comes x100 (8 : Int32) x96).bind fun x105 => (gf_P 12 25 a0 x105).bind fun x109 => (f_X11_comes x109 (8 : Int32) x105).bind fun x114 => (gf_P 12 26 a0 x114).bind fun x118 => (f_X11_comes x118 (8 : Int32) x114).bind fun x123 => (gf_P 12 27 a0 x123).bind fun x127 => (f_X11_comes x127 (8 : Int32) x123).bind fun x132 => (gf_P 12 28 a0 x132).bind fun x136 => (f_X11_comes x136 (8 : Int32) x132).bind fun x141 => (gf_P 12 29 a0 x141).bind fun x145 => (f_X11_comes x145 (8 : Int32) x141).bind fun x150 => (pf_I 12 32 a0 (0 : Int32) x150).bind fun μ155 => (f_X11_makeTurnings 10 a0 (0 : Int32) (0 : Int32) (0 : Int64) μ155).bind fun x162 => (pf_I 12 33 a0 (0 : Int32) x162).bind fun μ167 => (pf_I 12 46 a0 (0 : Int32) μ167).bind fun μ172 => (pf_I 12 47 a0 (0 : Int32) μ172).bind fun μ177 => (pf_I 12 48 a0 (0 : Int32) μ177).bind fun μ182 => (pf_Z 12 64 a0 (0 : Int32) μ182).bind fun μ187 => (whl (f_X11_settle_L192 a0) ((0 : Int32), μ187)).bind (fun b192 => some b192) else none
abbrev Rn_X11_settle (G : Gv) (Q : Option Value → Mm → Prop) (pc : Nat) (lv : List (Nat × Value)) (st : List Value) (μ : Mm) : Prop := Rn G RX11 cX11_settle 2 none "settle" (rmd 12 0 0) (Zm G 0 0 Q) 0 0 pc lv st μ
set_option maxRecDepth 100000 in
set_option maxHeartbeats 4000000 in
theorem m_X11_settle {G : Gv} (a0 : Nat) (μ : Mm) {r : Mm} (hx : f_X11_settle a0 μ = some r) : Mt G yX11_settle cX11_settle 2 none 12 0 0 [.ref a0] μ (fun v μ' => v = none ∧ μ' = r) := by
  refine Mt.of (by decide) (Nat.le_of_ble_eq_true rfl) ?_
  show Rn_X11_settle G (fun v μ' => v = none ∧ μ' = r) 0 [(0, .ref a0)] [] μ
  obtain ⟨_, h⟩ := Sat_ifp (show Sat (f_X11_settle a0 μ) (fun x => x = r) from ⟨_, hx, rfl⟩)
  refine r_aload_n dX11_settle_0 0 rfl ?_
  obtain ⟨x1, e1, h⟩ := Sat_bind h
  refine r_getP fk_X11_17 rfl e1 dX11_settle_1 ?_
  refine r_bipush (v := 11) dX11_settle_4 (by decide) ?_
  obtain ⟨x6, e6, h⟩ := Sat_bind h
  refine r_cS [.ref x1, .int (11 : Int32)] [] (m_X11_comes x1 (11 : Int32) μ e6) ck_X11_comes lk_X11_230 st_X11_comes rfl rfl (Nat.le_of_ble_eq_true rfl) ⟨by decide, by decide⟩ ⟨Nat.zero_le _, Nat.zero_le _⟩ dX11_settle_6 ?_
  refine r_aload_n dX11_settle_9 0 rfl ?_
  obtain ⟨x10, e10, h⟩ := Sat_bind h
  refine r_getP fk_X11_25 rfl e10 dX11_settle_10 ?_
  refine r_bipush (v := 8) dX11_settle_13 (by decide) ?_
  obtain ⟨x15, e15, h⟩ := Sat_bind h
  refine r_cS [.ref x10, .int (8 : Int32)] [] (m_X11_comes x10 (8 : Int32) x6 e15) ck_X11_comes lk_X11_230 st_X11_comes rfl rfl (Nat.le_of_ble_eq_true rfl) ⟨by decide, by decide⟩ ⟨Nat.zero_le _, Nat.zero_le _⟩ dX11_settle_15 ?_
  refine r_aload_n dX11_settle_18 0 rfl ?_
  obtain ⟨x19, e19, h⟩ := Sat_bind h
  refine r_getP fk_X11_28 rfl e19 dX11_settle_19 ?_
  refine r_bipush (v := 12) dX11_settle_22 (by decide) ?_
  obtain ⟨x24, e24, h⟩ := Sat_bind h
  refine r_cS [.ref x19, .int (12 : Int32)] [] (m_X11_comes x19 (12 : Int32) x15 e24) ck_X11_comes lk_X11_230 st_X11_comes rfl rfl (Nat.le_of_ble_eq_true rfl) ⟨by decide, by decide⟩ ⟨Nat.zero_le _, Nat.zero_le _⟩ dX11_settle_24 ?_
  refine r_aload_n dX11_settle_27 0 rfl ?_
  obtain ⟨x28, e28, h⟩ := Sat_bind h
  refine r_getP fk_X11_31 rfl e28 dX11_settle_28 ?_
  refine r_bipush (v := 12) dX11_settle_31 (by decide) ?_
  obtain ⟨x33, e33, h⟩ := Sat_bind h
  refine r_cS [.ref x28, .int (12 : Int32)] [] (m_X11_comes x28 (12 : Int32) x24 e33) ck_X11_comes lk_X11_230 st_X11_comes rfl rfl (Nat.le_of_ble_eq_true rfl) ⟨by decide, by decide⟩ ⟨Nat.zero_le _, Nat.zero_le _⟩ dX11_settle_33 ?_
  refine r_aload_n dX11_settle_36 0 rfl ?_
  obtain ⟨x37, e37, h⟩ := Sat_bind h
  refine r_getP fk_X11_34 rfl e37 dX11_settle_37 ?_
  refine r_bipush (v := 8) dX11_settle_40 (by decide) ?_
  obtain ⟨x42, e42, h⟩ := Sat_bind h
  refine r_cS [.ref x37, .int (8 : Int32)] [] (m_X11_comes x37 (8 : Int32) x33 e42) ck_X11_comes lk_X11_230 st_X11_comes rfl rfl (Nat.le_of_ble_eq_true rfl) ⟨by decide, by decide⟩ ⟨Nat.zero_le _, Nat.zero_le _⟩ dX11_settle_42 ?_
  refine r_aload_n dX11_settle_45 0 rfl ?_
  obtain ⟨x46, e46, h⟩ := Sat_bind h
  refine r_getP fk_X11_37 rfl e46 dX11_settle_46 ?_
  refine r_bipush (v := 8) dX11_settle_49 (by decide) ?_
  obtain ⟨x51, e51, h⟩ := Sat_bind h
  refine r_cS [.ref x46, .int (8 : Int32)] [] (m_X11_comes x46 (8 : Int32) x42 e51) ck_X11_comes lk_X11_230 st_X11_comes rfl rfl (Nat.le_of_ble_eq_true rfl) ⟨by decide, by decide⟩ ⟨Nat.zero_le _, Nat.zero_le _⟩ dX11_settle_51 ?_
  refine r_aload_n dX11_settle_54 0 rfl ?_
  obtain ⟨x55, e55, h⟩ := Sat_bind h
  refine r_getP fk_X11_40 rfl e55 dX11_settle_55 ?_
  refine r_bipush (v := 8) dX11_settle_58 (by decide) ?_
  obtain ⟨x60, e60, h⟩ := Sat_bind h
  refine r_cS [.ref x55, .int (8 : Int32)] [] (m_X11_comes x55 (8 : Int32) x51 e60) ck_X11_comes lk_X11_230 st_X11_comes rfl rfl (Nat.le_of_ble_eq_true rfl) ⟨by decide, by decide⟩ ⟨Nat.zero_le _, Nat.zero_le _⟩ dX11_settle_60 ?_
  refine r_aload_n dX11_settle_63 0 rfl ?_
  obtain ⟨x64, e64, h⟩ := Sat_bind h
  refine r_getP fk_X11_43 rfl e64 dX11_settle_64 ?_
  refine r_bipush (v := 8) dX11_settle_67 (by decide) ?_
  obtain ⟨x69, e69, h⟩ := Sat_bind h
  refine r_cS [.ref x64, .int (8 : Int32)] [] (m_X11_comes x64 (8 : Int32) x60 e69) ck_X11_comes lk_X11_230 st_X11_comes rfl rfl (Nat.le_of_ble_eq_true rfl) ⟨by decide, by decide⟩ ⟨Nat.zero_le _, Nat.zero_le _⟩ dX11_settle_69 ?_
  refine r_aload_n dX11_settle_72 0 rfl ?_
  obtain ⟨x73, e73, h⟩ := Sat_bind h
  refine r_getP fk_X11_46 rfl e73 dX11_settle_73 ?_
  refine r_bipush (v := 8) dX11_settle_76 (by decide) ?_
  obtain ⟨x78, e78, h⟩ := Sat_bind h
  refine r_cS [.ref x73, .int (8 : Int32)] [] (m_X11_comes x73 (8 : Int32) x69 e78) ck_X11_comes lk_X11_230 st_X11_comes rfl rfl (Nat.le_of_ble_eq_true rfl) ⟨by decide, by decide⟩ ⟨Nat.zero_le _, Nat.zero_le _⟩ dX11_settle_78 ?_
  refine r_aload_n dX11_settle_81 0 rfl ?_
  obtain ⟨x82, e82, h⟩ := Sat_bind h
  refine r_getP fk_X11_49 rfl e82 dX11_settle_82 ?_
  refine r_bipush (v := 8) dX11_settle_85 (by decide) ?_
  obtain ⟨x87, e87, h⟩ := Sat_bind h
  refine r_cS [.ref x82, .int (8 : Int32)] [] (m_X11_comes x82 (8 : Int32) x78 e87) ck_X11_comes lk_X11_230 st_X11_comes rfl rfl (Nat.le_of_ble_eq_true rfl) ⟨by decide, by decide⟩ ⟨Nat.zero_le _, Nat.zero_le _⟩ dX11_settle_87 ?_
  refine r_aload_n dX11_settle_90 0 rfl ?_
  obtain ⟨x91, e91, h⟩ := Sat_bind h
  refine r_getP fk_X11_52 rfl e91 dX11_settle_91 ?_
  refine r_bipush (v := 8) dX11_settle_94 (by decide) ?_
  obtain ⟨x96, e96, h⟩ := Sat_bind h
  refine r_cS [.ref x91, .int (8 : Int32)] [] (m_X11_comes x91 (8 : Int32) x87 e96) ck_X11_comes lk_X11_230 st_X11_comes rfl rfl (Nat.le_of_ble_eq_true rfl) ⟨by decide, by decide⟩ ⟨Nat.zero_le _, Nat.zero_le _⟩ dX11_settle_96 ?_
  refine r_aload_n dX11_settle_99 0 rfl ?_
  obtain ⟨x100, e100, h⟩ := Sat_bind h
  refine r_getP fk_X11_55 rfl e100 dX11_settle_100 ?_
  refine r_bipush (v := 8) dX11_settle_103 (by decide) ?_
  obtain ⟨x105, e105, h⟩ := Sat_bind h
  refine r_cS [.ref x100, .int (8 : Int32)] [] (m_X11_comes x100 (8 : Int32) x96 e105) ck_X11_comes lk_X11_230 st_X11_comes rfl rfl (Nat.le_of_ble_eq_true rfl) ⟨by decide, by decide⟩ ⟨Nat.zero_le _, Nat.zero_le _⟩ dX11_settle_105 ?_
  refine r_aload_n dX11_settle_108 0 rfl ?_
  obtain ⟨x109, e109, h⟩ := Sat_bind h
  refine r_getP fk_X11_58 rfl e109 dX11_settle_109 ?_
  refine r_bipush (v := 8) dX11_settle_112 (by decide) ?_
  obtain ⟨x114, e114, h⟩ := Sat_bind h
  refine r_cS [.ref x109, .int (8 : Int32)] [] (m_X11_comes x109 (8 : Int32) x105 e114) ck_X11_comes lk_X11_230 st_X11_comes rfl rfl (Nat.le_of_ble_eq_true rfl) ⟨by decide, by decide⟩ ⟨Nat.zero_le _, Nat.zero_le _⟩ dX11_settle_114 ?_
  refine r_aload_n dX11_settle_117 0 rfl ?_
  obtain ⟨x118, e118, h⟩ := Sat_bind h
  refine r_getP fk_X11_61 rfl e118 dX11_settle_118 ?_
  refine r_bipush (v := 8) dX11_settle_121 (by decide) ?_
  obtain ⟨x123, e123, h⟩ := Sat_bind h
  refine r_cS [.ref x118, .int (8 : Int32)] [] (m_X11_comes x118 (8 : Int32) x114 e123) ck_X11_comes lk_X11_230 st_X11_comes rfl rfl (Nat.le_of_ble_eq_true rfl) ⟨by decide, by decide⟩ ⟨Nat.zero_le _, Nat.zero_le _⟩ dX11_settle_123 ?_
  refine r_aload_n dX11_settle_126 0 rfl ?_
  obtain ⟨x127, e127, h⟩ := Sat_bind h
  refine r_getP fk_X11_64 rfl e127 dX11_settle_127 ?_
  refine r_bipush (v := 8) dX11_settle_130 (by decide) ?_
  obtain ⟨x132, e132, h⟩ := Sat_bind h
  refine r_cS [.ref x127, .int (8 : Int32)] [] (m_X11_comes x127 (8 : Int32) x123 e132) ck_X11_comes lk_X11_230 st_X11_comes rfl rfl (Nat.le_of_ble_eq_true rfl) ⟨by decide, by decide⟩ ⟨Nat.zero_le _, Nat.zero_le _⟩ dX11_settle_132 ?_
  refine r_aload_n dX11_settle_135 0 rfl ?_
  obtain ⟨x136, e136, h⟩ := Sat_bind h
  refine r_getP fk_X11_67 rfl e136 dX11_settle_136 ?_
  refine r_bipush (v := 8) dX11_settle_139 (by decide) ?_
  obtain ⟨x141, e141, h⟩ := Sat_bind h
  refine r_cS [.ref x136, .int (8 : Int32)] [] (m_X11_comes x136 (8 : Int32) x132 e141) ck_X11_comes lk_X11_230 st_X11_comes rfl rfl (Nat.le_of_ble_eq_true rfl) ⟨by decide, by decide⟩ ⟨Nat.zero_le _, Nat.zero_le _⟩ dX11_settle_141 ?_
  refine r_aload_n dX11_settle_144 0 rfl ?_
  obtain ⟨x145, e145, h⟩ := Sat_bind h
  refine r_getP fk_X11_70 rfl e145 dX11_settle_145 ?_
  refine r_bipush (v := 8) dX11_settle_148 (by decide) ?_
  obtain ⟨x150, e150, h⟩ := Sat_bind h
  refine r_cS [.ref x145, .int (8 : Int32)] [] (m_X11_comes x145 (8 : Int32) x141 e150) ck_X11_comes lk_X11_230 st_X11_comes rfl rfl (Nat.le_of_ble_eq_true rfl) ⟨by decide, by decide⟩ ⟨Nat.zero_le _, Nat.zero_le _⟩ dX11_settle_150 ?_
  refine r_aload_n dX11_settle_153 0 rfl ?_
  refine r_iconst (v := 0) dX11_settle_154 (by decide) ?_
  obtain ⟨μ155, e155, h⟩ := Sat_bind h
  refine r_putI fk_X11_234 rfl rfl e155 dX11_settle_155 ?_
  refine r_aload_n dX11_settle_158 0 rfl ?_
  refine r_iconst (v := 0) dX11_settle_159 (by decide) ?_
  refine r_iconst (v := 0) dX11_settle_160 (by decide) ?_
  refine r_lconst (v := 0) dX11_settle_161 (by decide) ?_
  obtain ⟨x162, e162, h⟩ := Sat_bind h
  refine r_cV (t := 12) [.int (0 : Int32), .int (0 : Int32), .long (0 : Int64)] [] (m_X11_makeTurnings 10 a0 (0 : Int32) (0 : Int32) (0 : Int64) μ155 e162) ck_X11_makeTurnings lk_X11_237 in_X11_makeTurnings se_X11_makeTurnings (kd_X11_makeTurnings e162) ⟨rfl, by decide, by decide⟩ rfl rfl (Nat.le_of_ble_eq_true rfl) ⟨by decide, by decide⟩ ⟨Nat.zero_le _, Nat.zero_le _⟩ dX11_settle_162 ?_
  refine r_aload_n dX11_settle_165 0 rfl ?_
  refine r_iconst (v := 0) dX11_settle_166 (by decide) ?_
  obtain ⟨μ167, e167, h⟩ := Sat_bind h
  refine r_putI fk_X11_241 rfl rfl e167 dX11_settle_167 ?_
  refine r_aload_n dX11_settle_170 0 rfl ?_
  refine r_iconst (v := 0) dX11_settle_171 (by decide) ?_
  obtain ⟨μ172, e172, h⟩ := Sat_bind h
  refine r_putI fk_X11_244 rfl rfl e172 dX11_settle_172 ?_
  refine r_aload_n dX11_settle_175 0 rfl ?_
  refine r_iconst (v := 0) dX11_settle_176 (by decide) ?_
  obtain ⟨μ177, e177, h⟩ := Sat_bind h
  refine r_putI fk_X11_247 rfl rfl e177 dX11_settle_177 ?_
  refine r_aload_n dX11_settle_180 0 rfl ?_
  refine r_iconst (v := 0) dX11_settle_181 (by decide) ?_
  obtain ⟨μ182, e182, h⟩ := Sat_bind h
  refine r_putI fk_X11_250 rfl rfl e182 dX11_settle_182 ?_
  refine r_aload_n dX11_settle_185 0 rfl ?_
  refine r_iconst (v := 0) dX11_settle_186 (by decide) ?_
  obtain ⟨μ187, e187, h⟩ := Sat_bind h
  refine r_putZ fk_X11_253 rfl rfl e187 dX11_settle_187 ?_
  refine r_iconst (v := 0) dX11_settle_190 (by decide) ?_
  refine r_istore_n (lv' := [(1, .int (0 : Int32)), (0, .ref a0)]) dX11_settle_191 rfl (by decide) rfl ?_
  refine r_sub (lv' := [(0, .ref a0), (1, .int (0 : Int32))]) [1, 0] rfl ?_
  refine whl_K (s0 := (((0 : Int32), μ187) : Int32 × Mm)) (RR := fun (s192 : Int32 × Mm) => Rn_X11_settle G (fun v μ' => v = none ∧ μ' = r) 192 [(0, .ref a0), (1, .int s192.1)] [] s192.2) ?_ (Sat_bindK h)
  intro s192 K192 hI192 hX192 h
  refine r_iload_n dX11_settle_192 1 rfl ?_
  refine r_iconst (v := 3) dX11_settle_193 (by decide) ?_
  refine r_icmp_ge 210 dX11_settle_194 (by decide) (fun c194 => ?_) (fun c194 => ?_)
  · have h := Sat_pos c194 h
    have h := hX192 _ (Sat_some h)
    exact r_vreturn rfl (by rw [← Sat_eq h]; exact ⟨rfl, rfl⟩) dX11_settle_210
  · have h := Sat_neg c194 h
    refine r_aload_n dX11_settle_197 0 rfl ?_
    obtain ⟨x198, e198, h⟩ := Sat_bind h
    refine r_getP fk_X11_145 rfl e198 dX11_settle_198 ?_
    refine r_iload_n dX11_settle_201 1 rfl ?_
    refine r_iconst (v := 0) dX11_settle_202 (by decide) ?_
    obtain ⟨μ203, e203, h⟩ := Sat_bind h
    refine r_zastore e203 dX11_settle_203 ?_
    obtain ⟨v204, e204, h⟩ := Sat_bind h
    refine r_iinc (j := 1) (v := v204) (lv' := [(1, .int v204), (0, .ref a0)]) dX11_settle_204 rfl (iinc_v e204 (by decide)) (by decide) rfl ?_
    refine r_goto 192 dX11_settle_207 (by decide) ?_
    exact r_sub [1, 0] rfl (hI192 _ (Sat_some h))
theorem dX11_isDigit_0 : decode cX11_isDigit 0 = .ok (.iload_n 0, 1) := by decide +kernel
theorem dX11_isDigit_1 : decode cX11_isDigit 1 = .ok (.bipush 48, 2) := by decide +kernel
theorem dX11_isDigit_3 : decode cX11_isDigit 3 = .ok (.if_icmp .lt 13, 3) := by decide +kernel
theorem dX11_isDigit_6 : decode cX11_isDigit 6 = .ok (.iload_n 0, 1) := by decide +kernel
theorem dX11_isDigit_7 : decode cX11_isDigit 7 = .ok (.bipush 57, 2) := by decide +kernel
theorem dX11_isDigit_9 : decode cX11_isDigit 9 = .ok (.if_icmp .gt 7, 3) := by decide +kernel
theorem dX11_isDigit_12 : decode cX11_isDigit 12 = .ok (.iconst 1, 1) := by decide +kernel
theorem dX11_isDigit_13 : decode cX11_isDigit 13 = .ok (.goto 4, 3) := by decide +kernel
theorem dX11_isDigit_16 : decode cX11_isDigit 16 = .ok (.iconst 0, 1) := by decide +kernel
theorem dX11_isDigit_17 : decode cX11_isDigit 17 = .ok (.ireturn, 1) := by decide +kernel
noncomputable def f_X11_isDigit_J16  (μ : Mm) : Option Int32 :=
  some (0 : Int32)
noncomputable def f_X11_isDigit (l0 : Int32) (μ : Mm) : Option Int32 :=
  if l0 < (48 : Int32) then f_X11_isDigit_J16 μ else if (57 : Int32) < l0 then f_X11_isDigit_J16 μ else some (1 : Int32)
abbrev Rn_X11_isDigit (G : Gv) (Q : Option Value → Mm → Prop) (pc : Nat) (lv : List (Nat × Value)) (st : List Value) (μ : Mm) : Prop := Rn G RX11 cX11_isDigit 1 (some .boolean) "isDigit" (rmd 0 0 0) (Zm G 0 0 Q) 0 0 pc lv st μ
set_option maxRecDepth 100000 in
set_option maxHeartbeats 4000000 in
theorem m_X11_isDigit {G : Gv} (l0 : Int32) (μ : Mm) {r : Int32} (hx : f_X11_isDigit l0 μ = some r) : Mt G yX11_isDigit cX11_isDigit 1 (some .boolean) 0 0 0 [.int l0] μ (fun v μ' => v = some (.int r) ∧ μ' = μ) := by
  refine Mt.of (by decide) (Nat.le_of_ble_eq_true rfl) ?_
  show Rn_X11_isDigit G (fun v μ' => v = some (.int r) ∧ μ' = μ) 0 [(0, .int l0)] [] μ
  have h : Sat (f_X11_isDigit l0 μ) (fun x => x = r) := ⟨_, hx, rfl⟩
  have J16 : Sat (f_X11_isDigit_J16 μ) (fun x => x = r) → Rn_X11_isDigit G (fun v μ' => v = some (.int r) ∧ μ' = μ) 16 [] [] μ := by
    intro  h
    refine r_iconst (v := 0) dX11_isDigit_16 (by decide) ?_
    exact r_zreturn rfl (by decide) (by rw [← Sat_eq h]; exact ⟨rfl, rfl⟩) dX11_isDigit_17
  refine r_iload_n dX11_isDigit_0 0 rfl ?_
  refine r_bipush (v := 48) dX11_isDigit_1 (by decide) ?_
  refine r_icmp_lt 16 dX11_isDigit_3 (by decide) (fun c3 => ?_) (fun c3 => ?_)
  · have h := Sat_pos c3 h
    exact r_sub [] rfl (J16  h)
  · have h := Sat_neg c3 h
    refine r_iload_n dX11_isDigit_6 0 rfl ?_
    refine r_bipush (v := 57) dX11_isDigit_7 (by decide) ?_
    refine r_icmp_gt 16 dX11_isDigit_9 (by decide) (fun c9 => ?_) (fun c9 => ?_)
    · have h := Sat_pos c9 h
      exact r_sub [] rfl (J16  h)
    · have h := Sat_neg c9 h
      refine r_iconst (v := 1) dX11_isDigit_12 (by decide) ?_
      refine r_goto 17 dX11_isDigit_13 (by decide) ?_
      exact r_zreturn rfl (by decide) (by rw [← Sat_eq h]; exact ⟨rfl, rfl⟩) dX11_isDigit_17
theorem dX11_isDreamtInDraft_0 : decode cX11_isDreamtInDraft 0 = .ok (.iconst 0, 1) := by decide +kernel
theorem dX11_isDreamtInDraft_1 : decode cX11_isDreamtInDraft 1 = .ok (.istore_n 2, 1) := by decide +kernel
theorem dX11_isDreamtInDraft_2 : decode cX11_isDreamtInDraft 2 = .ok (.iload_n 2, 1) := by decide +kernel
theorem dX11_isDreamtInDraft_3 : decode cX11_isDreamtInDraft 3 = .ok (.bipush 8, 2) := by decide +kernel
theorem dX11_isDreamtInDraft_5 : decode cX11_isDreamtInDraft 5 = .ok (.if_icmp .ge 26, 3) := by decide +kernel
theorem dX11_isDreamtInDraft_8 : decode cX11_isDreamtInDraft 8 = .ok (.aload_n 0, 1) := by decide +kernel
theorem dX11_isDreamtInDraft_9 : decode cX11_isDreamtInDraft 9 = .ok (.getfield 25, 3) := by decide +kernel
theorem dX11_isDreamtInDraft_12 : decode cX11_isDreamtInDraft 12 = .ok (.bipush 8, 2) := by decide +kernel
theorem dX11_isDreamtInDraft_14 : decode cX11_isDreamtInDraft 14 = .ok (.iload_n 2, 1) := by decide +kernel
theorem dX11_isDreamtInDraft_15 : decode cX11_isDreamtInDraft 15 = .ok (.iadd, 1) := by decide +kernel
theorem dX11_isDreamtInDraft_16 : decode cX11_isDreamtInDraft 16 = .ok (.iaload, 1) := by decide +kernel
theorem dX11_isDreamtInDraft_17 : decode cX11_isDreamtInDraft 17 = .ok (.iload_n 1, 1) := by decide +kernel
theorem dX11_isDreamtInDraft_18 : decode cX11_isDreamtInDraft 18 = .ok (.iconst 1, 1) := by decide +kernel
theorem dX11_isDreamtInDraft_19 : decode cX11_isDreamtInDraft 19 = .ok (.iadd, 1) := by decide +kernel
theorem dX11_isDreamtInDraft_20 : decode cX11_isDreamtInDraft 20 = .ok (.if_icmp .ne 5, 3) := by decide +kernel
theorem dX11_isDreamtInDraft_23 : decode cX11_isDreamtInDraft 23 = .ok (.iconst 1, 1) := by decide +kernel
theorem dX11_isDreamtInDraft_24 : decode cX11_isDreamtInDraft 24 = .ok (.ireturn, 1) := by decide +kernel
theorem dX11_isDreamtInDraft_25 : decode cX11_isDreamtInDraft 25 = .ok (.iinc 2 1, 3) := by decide +kernel
theorem dX11_isDreamtInDraft_28 : decode cX11_isDreamtInDraft 28 = .ok (.goto (-26), 3) := by decide +kernel
theorem dX11_isDreamtInDraft_31 : decode cX11_isDreamtInDraft 31 = .ok (.iconst 0, 1) := by decide +kernel
theorem dX11_isDreamtInDraft_32 : decode cX11_isDreamtInDraft 32 = .ok (.ireturn, 1) := by decide +kernel
noncomputable def f_X11_isDreamtInDraft_L2 (a0 : Nat) (l1 : Int32) (μ : Mm) (s2 : Int32) : Option ((Int32) ⊕ ((Unit) ⊕ (Unit))) :=
  if (8 : Int32) ≤ s2 then some (.inr (.inr ())) else (gf_P 12 14 a0 μ).bind fun x9 => (ga_I x9 ((8 : Int32) + s2) μ).bind fun x16 => if x16 = (l1 + (1 : Int32)) then some (.inr (.inl ())) else (some (s2 + (1 : Int32))).bind fun v25 => some (.inl v25)
noncomputable def f_X11_isDreamtInDraft (a0 : Nat) (l1 : Int32) (μ : Mm) : Option Int32 :=
  if (mm_K μ a0).1 = 12 then (whl (f_X11_isDreamtInDraft_L2 a0 l1 μ) (0 : Int32)).bind (sm (fun b2 => some (1 : Int32)) (fun b2 => some (0 : Int32))) else none
abbrev Rn_X11_isDreamtInDraft (G : Gv) (Q : Option Value → Mm → Prop) (pc : Nat) (lv : List (Nat × Value)) (st : List Value) (μ : Mm) : Prop := Rn G RX11 cX11_isDreamtInDraft 3 (some .boolean) "isDreamtInDraft" (rmd 0 0 0) (Zm G 0 0 Q) 0 0 pc lv st μ
set_option maxRecDepth 100000 in
set_option maxHeartbeats 4000000 in
theorem m_X11_isDreamtInDraft {G : Gv} (a0 : Nat) (l1 : Int32) (μ : Mm) {r : Int32} (hx : f_X11_isDreamtInDraft a0 l1 μ = some r) : Mt G yX11_isDreamtInDraft cX11_isDreamtInDraft 3 (some .boolean) 0 0 0 [.ref a0, .int l1] μ (fun v μ' => v = some (.int r) ∧ μ' = μ) := by
  refine Mt.of (by decide) (Nat.le_of_ble_eq_true rfl) ?_
  show Rn_X11_isDreamtInDraft G (fun v μ' => v = some (.int r) ∧ μ' = μ) 0 [(0, .ref a0), (1, .int l1)] [] μ
  obtain ⟨_, h⟩ := Sat_ifp (show Sat (f_X11_isDreamtInDraft a0 l1 μ) (fun x => x = r) from ⟨_, hx, rfl⟩)
  refine r_iconst (v := 0) dX11_isDreamtInDraft_0 (by decide) ?_
  refine r_istore_n (lv' := [(2, .int (0 : Int32)), (0, .ref a0), (1, .int l1)]) dX11_isDreamtInDraft_1 rfl (by decide) rfl ?_
  refine r_sub (lv' := [(0, .ref a0), (1, .int l1), (2, .int (0 : Int32))]) [1, 2, 0] rfl ?_
  refine whl_K (s0 := ((0 : Int32) : Int32)) (RR := fun (s2 : Int32) => Rn_X11_isDreamtInDraft G (fun v μ' => v = some (.int r) ∧ μ' = μ) 2 [(0, .ref a0), (1, .int l1), (2, .int s2)] [] μ) ?_ (Sat_bindK h)
  intro s2 K2 hI2 hX2 h
  refine r_iload_n dX11_isDreamtInDraft_2 2 rfl ?_
  refine r_bipush (v := 8) dX11_isDreamtInDraft_3 (by decide) ?_
  refine r_icmp_ge 31 dX11_isDreamtInDraft_5 (by decide) (fun c5 => ?_) (fun c5 => ?_)
  · have h := Sat_pos c5 h
    have h := hX2 _ (Sat_some h)
    refine r_iconst (v := 0) dX11_isDreamtInDraft_31 (by decide) ?_
    exact r_zreturn rfl (by decide) (by rw [← Sat_eq h]; exact ⟨rfl, rfl⟩) dX11_isDreamtInDraft_32
  · have h := Sat_neg c5 h
    refine r_aload_n dX11_isDreamtInDraft_8 0 rfl ?_
    obtain ⟨x9, e9, h⟩ := Sat_bind h
    refine r_getP fk_X11_25 rfl e9 dX11_isDreamtInDraft_9 ?_
    refine r_bipush (v := 8) dX11_isDreamtInDraft_12 (by decide) ?_
    refine r_iload_n dX11_isDreamtInDraft_14 2 rfl ?_
    refine r_iadd dX11_isDreamtInDraft_15 ?_
    obtain ⟨x16, e16, h⟩ := Sat_bind h
    refine r_iaload e16 dX11_isDreamtInDraft_16 ?_
    refine r_iload_n dX11_isDreamtInDraft_17 1 rfl ?_
    refine r_iconst (v := 1) dX11_isDreamtInDraft_18 (by decide) ?_
    refine r_iadd dX11_isDreamtInDraft_19 ?_
    refine r_icmp_ne 25 dX11_isDreamtInDraft_20 (by decide) (fun c20 => ?_) (fun c20 => ?_)
    · have h := Sat_neg c20 h
      obtain ⟨v25, e25, h⟩ := Sat_bind h
      refine r_iinc (j := 2) (v := v25) (lv' := [(2, .int v25), (0, .ref a0), (1, .int l1)]) dX11_isDreamtInDraft_25 rfl (iinc_v e25 (by decide)) (by decide) rfl ?_
      refine r_goto 2 dX11_isDreamtInDraft_28 (by decide) ?_
      exact r_sub [1, 2, 0] rfl (hI2 _ (Sat_some h))
    · have h := Sat_pos c20 h
      have h := hX2 _ (Sat_some h)
      refine r_iconst (v := 1) dX11_isDreamtInDraft_23 (by decide) ?_
      exact r_zreturn rfl (by decide) (by rw [← Sat_eq h]; exact ⟨rfl, rfl⟩) dX11_isDreamtInDraft_24
theorem dX11_isSet_0 : decode cX11_isSet 0 = .ok (.iload_n 1, 1) := by decide +kernel
theorem dX11_isSet_1 : decode cX11_isSet 1 = .ok (.ifCond .lt 19, 3) := by decide +kernel
theorem dX11_isSet_4 : decode cX11_isSet 4 = .ok (.iload_n 1, 1) := by decide +kernel
theorem dX11_isSet_5 : decode cX11_isSet 5 = .ok (.iconst 1, 1) := by decide +kernel
theorem dX11_isSet_6 : decode cX11_isSet 6 = .ok (.aload_n 0, 1) := by decide +kernel
theorem dX11_isSet_7 : decode cX11_isSet 7 = .ok (.getfield 17, 3) := by decide +kernel
theorem dX11_isSet_10 : decode cX11_isSet 10 = .ok (.iconst 0, 1) := by decide +kernel
theorem dX11_isSet_11 : decode cX11_isSet 11 = .ok (.iaload, 1) := by decide +kernel
theorem dX11_isSet_12 : decode cX11_isSet 12 = .ok (.ishl, 1) := by decide +kernel
theorem dX11_isSet_13 : decode cX11_isSet 13 = .ok (.if_icmp .ge 7, 3) := by decide +kernel
theorem dX11_isSet_16 : decode cX11_isSet 16 = .ok (.iconst 1, 1) := by decide +kernel
theorem dX11_isSet_17 : decode cX11_isSet 17 = .ok (.goto 4, 3) := by decide +kernel
theorem dX11_isSet_20 : decode cX11_isSet 20 = .ok (.iconst 0, 1) := by decide +kernel
theorem dX11_isSet_21 : decode cX11_isSet 21 = .ok (.ireturn, 1) := by decide +kernel
noncomputable def f_X11_isSet_J20  (μ : Mm) : Option Int32 :=
  some (0 : Int32)
noncomputable def f_X11_isSet (a0 : Nat) (l1 : Int32) (μ : Mm) : Option Int32 :=
  if (mm_K μ a0).1 = 12 then if l1 < 0 then f_X11_isSet_J20 μ else (gf_P 12 12 a0 μ).bind fun x7 => (ga_I x7 (0 : Int32) μ).bind fun x11 => if ((1 : Int32) <<< (x11 &&& 31)) ≤ l1 then f_X11_isSet_J20 μ else some (1 : Int32) else none
abbrev Rn_X11_isSet (G : Gv) (Q : Option Value → Mm → Prop) (pc : Nat) (lv : List (Nat × Value)) (st : List Value) (μ : Mm) : Prop := Rn G RX11 cX11_isSet 2 (some .boolean) "isSet" (rmd 0 0 0) (Zm G 0 0 Q) 0 0 pc lv st μ
set_option maxRecDepth 100000 in
set_option maxHeartbeats 4000000 in
theorem m_X11_isSet {G : Gv} (a0 : Nat) (l1 : Int32) (μ : Mm) {r : Int32} (hx : f_X11_isSet a0 l1 μ = some r) : Mt G yX11_isSet cX11_isSet 2 (some .boolean) 0 0 0 [.ref a0, .int l1] μ (fun v μ' => v = some (.int r) ∧ μ' = μ) := by
  refine Mt.of (by decide) (Nat.le_of_ble_eq_true rfl) ?_
  show Rn_X11_isSet G (fun v μ' => v = some (.int r) ∧ μ' = μ) 0 [(0, .ref a0), (1, .int l1)] [] μ
  obtain ⟨_, h⟩ := Sat_ifp (show Sat (f_X11_isSet a0 l1 μ) (fun x => x = r) from ⟨_, hx, rfl⟩)
  have J20 : Sat (f_X11_isSet_J20 μ) (fun x => x = r) → Rn_X11_isSet G (fun v μ' => v = some (.int r) ∧ μ' = μ) 20 [] [] μ := by
    intro  h
    refine r_iconst (v := 0) dX11_isSet_20 (by decide) ?_
    exact r_zreturn rfl (by decide) (by rw [← Sat_eq h]; exact ⟨rfl, rfl⟩) dX11_isSet_21
  refine r_iload_n dX11_isSet_0 1 rfl ?_
  refine r_if_lt 20 dX11_isSet_1 (by decide) (fun c1 => ?_) (fun c1 => ?_)
  · have h := Sat_pos c1 h
    exact r_sub [] rfl (J20  h)
  · have h := Sat_neg c1 h
    refine r_iload_n dX11_isSet_4 1 rfl ?_
    refine r_iconst (v := 1) dX11_isSet_5 (by decide) ?_
    refine r_aload_n dX11_isSet_6 0 rfl ?_
    obtain ⟨x7, e7, h⟩ := Sat_bind h
    refine r_getP fk_X11_17 rfl e7 dX11_isSet_7 ?_
    refine r_iconst (v := 0) dX11_isSet_10 (by decide) ?_
    obtain ⟨x11, e11, h⟩ := Sat_bind h
    refine r_iaload e11 dX11_isSet_11 ?_
    refine r_ishl dX11_isSet_12 ?_
    refine r_icmp_ge 20 dX11_isSet_13 (by decide) (fun c13 => ?_) (fun c13 => ?_)
    · have h := Sat_pos c13 h
      exact r_sub [] rfl (J20  h)
    · have h := Sat_neg c13 h
      refine r_iconst (v := 1) dX11_isSet_16 (by decide) ?_
      refine r_goto 21 dX11_isSet_17 (by decide) ?_
      exact r_zreturn rfl (by decide) (by rw [← Sat_eq h]; exact ⟨rfl, rfl⟩) dX11_isSet_21
theorem dX11_isSign_0 : decode cX11_isSign 0 = .ok (.aload_n 0, 1) := by decide +kernel
theorem dX11_isSign_1 : decode cX11_isSign 1 = .ok (.iload_n 1, 1) := by decide +kernel
theorem dX11_isSign_2 : decode cX11_isSign 2 = .ok (.invokevirtual 309, 3) := by decide +kernel
theorem dX11_isSign_5 : decode cX11_isSign 5 = .ok (.ifCond .eq 22, 3) := by decide +kernel
theorem dX11_isSign_8 : decode cX11_isSign 8 = .ok (.aload_n 0, 1) := by decide +kernel
theorem dX11_isSign_9 : decode cX11_isSign 9 = .ok (.iload_n 2, 1) := by decide +kernel
theorem dX11_isSign_10 : decode cX11_isSign 10 = .ok (.invokevirtual 309, 3) := by decide +kernel
theorem dX11_isSign_13 : decode cX11_isSign 13 = .ok (.ifCond .eq 14, 3) := by decide +kernel
theorem dX11_isSign_16 : decode cX11_isSign 16 = .ok (.iload_n 3, 1) := by decide +kernel
theorem dX11_isSign_17 : decode cX11_isSign 17 = .ok (.invokestatic 363, 3) := by decide +kernel
theorem dX11_isSign_20 : decode cX11_isSign 20 = .ok (.ifCond .eq 7, 3) := by decide +kernel
theorem dX11_isSign_23 : decode cX11_isSign 23 = .ok (.iconst 1, 1) := by decide +kernel
theorem dX11_isSign_24 : decode cX11_isSign 24 = .ok (.goto 4, 3) := by decide +kernel
theorem dX11_isSign_27 : decode cX11_isSign 27 = .ok (.iconst 0, 1) := by decide +kernel
theorem dX11_isSign_28 : decode cX11_isSign 28 = .ok (.ireturn, 1) := by decide +kernel
noncomputable def f_X11_isSign_J27  (μ : Mm) : Option Int32 :=
  some (0 : Int32)
noncomputable def f_X11_isSign (a0 : Nat) (l1 : Int32) (l2 : Int32) (l3 : Int32) (μ : Mm) : Option Int32 :=
  if (mm_K μ a0).1 = 12 then (f_X11_isPerson a0 l1 μ).bind fun x2 => if x2 = 0 then f_X11_isSign_J27 μ else (f_X11_isPerson a0 l2 μ).bind fun x10 => if x10 = 0 then f_X11_isSign_J27 μ else (f_X11_isDay l3 μ).bind fun x17 => if x17 = 0 then f_X11_isSign_J27 μ else some (1 : Int32) else none
abbrev Rn_X11_isSign (G : Gv) (Q : Option Value → Mm → Prop) (pc : Nat) (lv : List (Nat × Value)) (st : List Value) (μ : Mm) : Prop := Rn G RX11 cX11_isSign 4 (some .boolean) "isSign" (rmd 2 0 0) (Zm G 0 0 Q) 0 0 pc lv st μ
set_option maxRecDepth 100000 in
set_option maxHeartbeats 4000000 in
theorem m_X11_isSign {G : Gv} (a0 : Nat) (l1 : Int32) (l2 : Int32) (l3 : Int32) (μ : Mm) {r : Int32} (hx : f_X11_isSign a0 l1 l2 l3 μ = some r) : Mt G yX11_isSign cX11_isSign 4 (some .boolean) 2 0 0 [.ref a0, .int l1, .int l2, .int l3] μ (fun v μ' => v = some (.int r) ∧ μ' = μ) := by
  refine Mt.of (by decide) (Nat.le_of_ble_eq_true rfl) ?_
  show Rn_X11_isSign G (fun v μ' => v = some (.int r) ∧ μ' = μ) 0 [(0, .ref a0), (1, .int l1), (2, .int l2), (3, .int l3)] [] μ
  obtain ⟨_, h⟩ := Sat_ifp (show Sat (f_X11_isSign a0 l1 l2 l3 μ) (fun x => x = r) from ⟨_, hx, rfl⟩)
  have J27 : Sat (f_X11_isSign_J27 μ) (fun x => x = r) → Rn_X11_isSign G (fun v μ' => v = some (.int r) ∧ μ' = μ) 27 [] [] μ := by
    intro  h
    refine r_iconst (v := 0) dX11_isSign_27 (by decide) ?_
    exact r_zreturn rfl (by decide) (by rw [← Sat_eq h]; exact ⟨rfl, rfl⟩) dX11_isSign_28
  refine r_aload_n dX11_isSign_0 0 rfl ?_
  refine r_iload_n dX11_isSign_1 1 rfl ?_
  obtain ⟨x2, e2, h⟩ := Sat_bind h
  refine r_cV (t := 12) [.int l1] [] (m_X11_isPerson a0 l1 μ e2) ck_X11_isPerson lk_X11_309 in_X11_isPerson se_X11_isPerson (kd_of e2) ⟨rfl, by decide, by decide⟩ rfl rfl (Nat.le_of_ble_eq_true rfl) ⟨by decide, by decide⟩ ⟨Nat.zero_le _, Nat.zero_le _⟩ dX11_isSign_2 ?_
  refine r_if_eq 27 dX11_isSign_5 (by decide) (fun c5 => ?_) (fun c5 => ?_)
  · have h := Sat_pos c5 h
    exact r_sub [] rfl (J27  h)
  · have h := Sat_neg c5 h
    refine r_aload_n dX11_isSign_8 0 rfl ?_
    refine r_iload_n dX11_isSign_9 2 rfl ?_
    obtain ⟨x10, e10, h⟩ := Sat_bind h
    refine r_cV (t := 12) [.int l2] [] (m_X11_isPerson a0 l2 μ e10) ck_X11_isPerson lk_X11_309 in_X11_isPerson se_X11_isPerson (kd_of e10) ⟨rfl, by decide, by decide⟩ rfl rfl (Nat.le_of_ble_eq_true rfl) ⟨by decide, by decide⟩ ⟨Nat.zero_le _, Nat.zero_le _⟩ dX11_isSign_10 ?_
    refine r_if_eq 27 dX11_isSign_13 (by decide) (fun c13 => ?_) (fun c13 => ?_)
    · have h := Sat_pos c13 h
      exact r_sub [] rfl (J27  h)
    · have h := Sat_neg c13 h
      refine r_iload_n dX11_isSign_16 3 rfl ?_
      obtain ⟨x17, e17, h⟩ := Sat_bind h
      refine r_cS [.int l3] [] (m_X11_isDay l3 μ e17) ck_X11_isDay lk_X11_363 st_X11_isDay rfl rfl (Nat.le_of_ble_eq_true rfl) ⟨by decide, by decide⟩ ⟨Nat.zero_le _, Nat.zero_le _⟩ dX11_isSign_17 ?_
      refine r_if_eq 27 dX11_isSign_20 (by decide) (fun c20 => ?_) (fun c20 => ?_)
      · have h := Sat_pos c20 h
        exact r_sub [] rfl (J27  h)
      · have h := Sat_neg c20 h
        refine r_iconst (v := 1) dX11_isSign_23 (by decide) ?_
        refine r_goto 28 dX11_isSign_24 (by decide) ?_
        exact r_zreturn rfl (by decide) (by rw [← Sat_eq h]; exact ⟨rfl, rfl⟩) dX11_isSign_28
theorem dX11_isSlot_0 : decode cX11_isSlot 0 = .ok (.iload_n 0, 1) := by decide +kernel
theorem dX11_isSlot_1 : decode cX11_isSlot 1 = .ok (.iconst 0, 1) := by decide +kernel
theorem dX11_isSlot_2 : decode cX11_isSlot 2 = .ok (.iconst 2, 1) := by decide +kernel
theorem dX11_isSlot_3 : decode cX11_isSlot 3 = .ok (.invokestatic 217, 3) := by decide +kernel
theorem dX11_isSlot_6 : decode cX11_isSlot 6 = .ok (.ireturn, 1) := by decide +kernel
noncomputable def f_X11_isSlot (l0 : Int32) (μ : Mm) : Option Int32 :=
  (f_X11_in l0 (0 : Int32) (2 : Int32) μ).bind fun x3 => if x3 = 0 ∨ x3 = 1 then some x3 else none
abbrev Rn_X11_isSlot (G : Gv) (Q : Option Value → Mm → Prop) (pc : Nat) (lv : List (Nat × Value)) (st : List Value) (μ : Mm) : Prop := Rn G RX11 cX11_isSlot 1 (some .boolean) "isSlot" (rmd 1 0 0) (Zm G 0 0 Q) 0 0 pc lv st μ
set_option maxRecDepth 100000 in
set_option maxHeartbeats 4000000 in
theorem m_X11_isSlot {G : Gv} (l0 : Int32) (μ : Mm) {r : Int32} (hx : f_X11_isSlot l0 μ = some r) : Mt G yX11_isSlot cX11_isSlot 1 (some .boolean) 1 0 0 [.int l0] μ (fun v μ' => v = some (.int r) ∧ μ' = μ) := by
  refine Mt.of (by decide) (Nat.le_of_ble_eq_true rfl) ?_
  show Rn_X11_isSlot G (fun v μ' => v = some (.int r) ∧ μ' = μ) 0 [(0, .int l0)] [] μ
  have h : Sat (f_X11_isSlot l0 μ) (fun x => x = r) := ⟨_, hx, rfl⟩
  refine r_iload_n dX11_isSlot_0 0 rfl ?_
  refine r_iconst (v := 0) dX11_isSlot_1 (by decide) ?_
  refine r_iconst (v := 2) dX11_isSlot_2 (by decide) ?_
  obtain ⟨x3, e3, h⟩ := Sat_bind h
  refine r_cS [.int l0, .int (0 : Int32), .int (2 : Int32)] [] (m_X11_in l0 (0 : Int32) (2 : Int32) μ e3) ck_X11_in lk_X11_217 st_X11_in rfl rfl (Nat.le_of_ble_eq_true rfl) ⟨by decide, by decide⟩ ⟨Nat.zero_le _, Nat.zero_le _⟩ dX11_isSlot_3 ?_
  obtain ⟨hz, h⟩ := Sat_ifp h
  exact r_zreturn rfl hz (by rw [← Sat_eq h]; exact ⟨rfl, rfl⟩) dX11_isSlot_6
theorem dX11_isSmall_0 : decode cX11_isSmall 0 = .ok (.iload_n 0, 1) := by decide +kernel
theorem dX11_isSmall_1 : decode cX11_isSmall 1 = .ok (.bipush 97, 2) := by decide +kernel
theorem dX11_isSmall_3 : decode cX11_isSmall 3 = .ok (.if_icmp .lt 13, 3) := by decide +kernel
theorem dX11_isSmall_6 : decode cX11_isSmall 6 = .ok (.iload_n 0, 1) := by decide +kernel
theorem dX11_isSmall_7 : decode cX11_isSmall 7 = .ok (.bipush 122, 2) := by decide +kernel
theorem dX11_isSmall_9 : decode cX11_isSmall 9 = .ok (.if_icmp .gt 7, 3) := by decide +kernel
theorem dX11_isSmall_12 : decode cX11_isSmall 12 = .ok (.iconst 1, 1) := by decide +kernel
theorem dX11_isSmall_13 : decode cX11_isSmall 13 = .ok (.goto 4, 3) := by decide +kernel
theorem dX11_isSmall_16 : decode cX11_isSmall 16 = .ok (.iconst 0, 1) := by decide +kernel
theorem dX11_isSmall_17 : decode cX11_isSmall 17 = .ok (.ireturn, 1) := by decide +kernel
noncomputable def f_X11_isSmall_J16  (μ : Mm) : Option Int32 :=
  some (0 : Int32)
noncomputable def f_X11_isSmall (l0 : Int32) (μ : Mm) : Option Int32 :=
  if l0 < (97 : Int32) then f_X11_isSmall_J16 μ else if (122 : Int32) < l0 then f_X11_isSmall_J16 μ else some (1 : Int32)
abbrev Rn_X11_isSmall (G : Gv) (Q : Option Value → Mm → Prop) (pc : Nat) (lv : List (Nat × Value)) (st : List Value) (μ : Mm) : Prop := Rn G RX11 cX11_isSmall 1 (some .boolean) "isSmall" (rmd 0 0 0) (Zm G 0 0 Q) 0 0 pc lv st μ
set_option maxRecDepth 100000 in
set_option maxHeartbeats 4000000 in
theorem m_X11_isSmall {G : Gv} (l0 : Int32) (μ : Mm) {r : Int32} (hx : f_X11_isSmall l0 μ = some r) : Mt G yX11_isSmall cX11_isSmall 1 (some .boolean) 0 0 0 [.int l0] μ (fun v μ' => v = some (.int r) ∧ μ' = μ) := by
  refine Mt.of (by decide) (Nat.le_of_ble_eq_true rfl) ?_
  show Rn_X11_isSmall G (fun v μ' => v = some (.int r) ∧ μ' = μ) 0 [(0, .int l0)] [] μ
  have h : Sat (f_X11_isSmall l0 μ) (fun x => x = r) := ⟨_, hx, rfl⟩
  have J16 : Sat (f_X11_isSmall_J16 μ) (fun x => x = r) → Rn_X11_isSmall G (fun v μ' => v = some (.int r) ∧ μ' = μ) 16 [] [] μ := by
    intro  h
    refine r_iconst (v := 0) dX11_isSmall_16 (by decide) ?_
    exact r_zreturn rfl (by decide) (by rw [← Sat_eq h]; exact ⟨rfl, rfl⟩) dX11_isSmall_17
  refine r_iload_n dX11_isSmall_0 0 rfl ?_
  refine r_bipush (v := 97) dX11_isSmall_1 (by decide) ?_
  refine r_icmp_lt 16 dX11_isSmall_3 (by decide) (fun c3 => ?_) (fun c3 => ?_)
  · have h := Sat_pos c3 h
    exact r_sub [] rfl (J16  h)
  · have h := Sat_neg c3 h
    refine r_iload_n dX11_isSmall_6 0 rfl ?_
    refine r_bipush (v := 122) dX11_isSmall_7 (by decide) ?_
    refine r_icmp_gt 16 dX11_isSmall_9 (by decide) (fun c9 => ?_) (fun c9 => ?_)
    · have h := Sat_pos c9 h
      exact r_sub [] rfl (J16  h)
    · have h := Sat_neg c9 h
      refine r_iconst (v := 1) dX11_isSmall_12 (by decide) ?_
      refine r_goto 17 dX11_isSmall_13 (by decide) ?_
      exact r_zreturn rfl (by decide) (by rw [← Sat_eq h]; exact ⟨rfl, rfl⟩) dX11_isSmall_17
theorem dX11_keyAt_0 : decode cX11_keyAt 0 = .ok (.iconst 0, 1) := by decide +kernel
theorem dX11_keyAt_1 : decode cX11_keyAt 1 = .ok (.istore_n 3, 1) := by decide +kernel
theorem dX11_keyAt_2 : decode cX11_keyAt 2 = .ok (.iconst 0, 1) := by decide +kernel
theorem dX11_keyAt_3 : decode cX11_keyAt 3 = .ok (.istore 4, 2) := by decide +kernel
theorem dX11_keyAt_5 : decode cX11_keyAt 5 = .ok (.iconst 0, 1) := by decide +kernel
theorem dX11_keyAt_6 : decode cX11_keyAt 6 = .ok (.istore 5, 2) := by decide +kernel
theorem dX11_keyAt_8 : decode cX11_keyAt 8 = .ok (.iload 5, 2) := by decide +kernel
theorem dX11_keyAt_10 : decode cX11_keyAt 10 = .ok (.ldc 161, 2) := by decide +kernel
theorem dX11_keyAt_12 : decode cX11_keyAt 12 = .ok (.invokevirtual 163, 3) := by decide +kernel
theorem dX11_keyAt_15 : decode cX11_keyAt 15 = .ok (.if_icmp .ge 104, 3) := by decide +kernel
theorem dX11_keyAt_18 : decode cX11_keyAt 18 = .ok (.ldc 161, 2) := by decide +kernel
theorem dX11_keyAt_20 : decode cX11_keyAt 20 = .ok (.iload 5, 2) := by decide +kernel
theorem dX11_keyAt_22 : decode cX11_keyAt 22 = .ok (.invokevirtual 169, 3) := by decide +kernel
theorem dX11_keyAt_25 : decode cX11_keyAt 25 = .ok (.bipush 32, 2) := by decide +kernel
theorem dX11_keyAt_27 : decode cX11_keyAt 27 = .ok (.if_icmp .eq 6, 3) := by decide +kernel
theorem dX11_keyAt_30 : decode cX11_keyAt 30 = .ok (.goto 83, 3) := by decide +kernel
theorem dX11_keyAt_33 : decode cX11_keyAt 33 = .ok (.iload 5, 2) := by decide +kernel
theorem dX11_keyAt_35 : decode cX11_keyAt 35 = .ok (.iload 4, 2) := by decide +kernel
theorem dX11_keyAt_37 : decode cX11_keyAt 37 = .ok (.isub, 1) := by decide +kernel
theorem dX11_keyAt_38 : decode cX11_keyAt 38 = .ok (.iload_n 2, 1) := by decide +kernel
theorem dX11_keyAt_39 : decode cX11_keyAt 39 = .ok (.if_icmp .ne 7, 3) := by decide +kernel
theorem dX11_keyAt_42 : decode cX11_keyAt 42 = .ok (.iconst 1, 1) := by decide +kernel
theorem dX11_keyAt_43 : decode cX11_keyAt 43 = .ok (.goto 4, 3) := by decide +kernel
theorem dX11_keyAt_46 : decode cX11_keyAt 46 = .ok (.iconst 0, 1) := by decide +kernel
theorem dX11_keyAt_47 : decode cX11_keyAt 47 = .ok (.istore 6, 2) := by decide +kernel
theorem dX11_keyAt_49 : decode cX11_keyAt 49 = .ok (.iconst 0, 1) := by decide +kernel
theorem dX11_keyAt_50 : decode cX11_keyAt 50 = .ok (.istore 7, 2) := by decide +kernel
theorem dX11_keyAt_52 : decode cX11_keyAt 52 = .ok (.iload 7, 2) := by decide +kernel
theorem dX11_keyAt_54 : decode cX11_keyAt 54 = .ok (.iload_n 2, 1) := by decide +kernel
theorem dX11_keyAt_55 : decode cX11_keyAt 55 = .ok (.if_icmp .ge 42, 3) := by decide +kernel
theorem dX11_keyAt_58 : decode cX11_keyAt 58 = .ok (.iload 6, 2) := by decide +kernel
theorem dX11_keyAt_60 : decode cX11_keyAt 60 = .ok (.ifCond .eq 37, 3) := by decide +kernel
theorem dX11_keyAt_63 : decode cX11_keyAt 63 = .ok (.ldc 161, 2) := by decide +kernel
theorem dX11_keyAt_65 : decode cX11_keyAt 65 = .ok (.iload 4, 2) := by decide +kernel
theorem dX11_keyAt_67 : decode cX11_keyAt 67 = .ok (.iload 7, 2) := by decide +kernel
theorem dX11_keyAt_69 : decode cX11_keyAt 69 = .ok (.iadd, 1) := by decide +kernel
theorem dX11_keyAt_70 : decode cX11_keyAt 70 = .ok (.invokevirtual 169, 3) := by decide +kernel
theorem dX11_keyAt_73 : decode cX11_keyAt 73 = .ok (.aload_n 0, 1) := by decide +kernel
theorem dX11_keyAt_74 : decode cX11_keyAt 74 = .ok (.iload_n 1, 1) := by decide +kernel
theorem dX11_keyAt_75 : decode cX11_keyAt 75 = .ok (.iload 7, 2) := by decide +kernel
theorem dX11_keyAt_77 : decode cX11_keyAt 77 = .ok (.iadd, 1) := by decide +kernel
theorem dX11_keyAt_78 : decode cX11_keyAt 78 = .ok (.invokevirtual 173, 3) := by decide +kernel
theorem dX11_keyAt_81 : decode cX11_keyAt 81 = .ok (.if_icmp .ne 7, 3) := by decide +kernel
theorem dX11_keyAt_84 : decode cX11_keyAt 84 = .ok (.iconst 1, 1) := by decide +kernel
theorem dX11_keyAt_85 : decode cX11_keyAt 85 = .ok (.goto 4, 3) := by decide +kernel
theorem dX11_keyAt_88 : decode cX11_keyAt 88 = .ok (.iconst 0, 1) := by decide +kernel
theorem dX11_keyAt_89 : decode cX11_keyAt 89 = .ok (.istore 6, 2) := by decide +kernel
theorem dX11_keyAt_91 : decode cX11_keyAt 91 = .ok (.iinc 7 1, 3) := by decide +kernel
theorem dX11_keyAt_94 : decode cX11_keyAt 94 = .ok (.goto (-42), 3) := by decide +kernel
theorem dX11_keyAt_97 : decode cX11_keyAt 97 = .ok (.iload 6, 2) := by decide +kernel
theorem dX11_keyAt_99 : decode cX11_keyAt 99 = .ok (.ifCond .eq 5, 3) := by decide +kernel
theorem dX11_keyAt_102 : decode cX11_keyAt 102 = .ok (.iload_n 3, 1) := by decide +kernel
theorem dX11_keyAt_103 : decode cX11_keyAt 103 = .ok (.ireturn, 1) := by decide +kernel
theorem dX11_keyAt_104 : decode cX11_keyAt 104 = .ok (.iinc 3 1, 3) := by decide +kernel
theorem dX11_keyAt_107 : decode cX11_keyAt 107 = .ok (.iload 5, 2) := by decide +kernel
theorem dX11_keyAt_109 : decode cX11_keyAt 109 = .ok (.iconst 1, 1) := by decide +kernel
theorem dX11_keyAt_110 : decode cX11_keyAt 110 = .ok (.iadd, 1) := by decide +kernel
theorem dX11_keyAt_111 : decode cX11_keyAt 111 = .ok (.istore 4, 2) := by decide +kernel
theorem dX11_keyAt_113 : decode cX11_keyAt 113 = .ok (.iinc 5 1, 3) := by decide +kernel
theorem dX11_keyAt_116 : decode cX11_keyAt 116 = .ok (.goto (-108), 3) := by decide +kernel
theorem dX11_keyAt_119 : decode cX11_keyAt 119 = .ok (.iconst (-1), 1) := by decide +kernel
theorem dX11_keyAt_120 : decode cX11_keyAt 120 = .ok (.ireturn, 1) := by decide +kernel
noncomputable def f_X11_keyAt_J113 (a0 : Nat) (l1 : Int32) (l2 : Int32) (l3 : Int32) (l4 : Int32) (l5 : Int32) (μ : Mm) : Option ((Int32 × Int32 × Int32) ⊕ ((Int32) ⊕ (Unit))) :=
  (some (l5 + (1 : Int32))).bind fun v113 => some (.inl (l3, l4, v113))
noncomputable def f_X11_keyAt_J97 (a0 : Nat) (l1 : Int32) (l2 : Int32) (l3 : Int32) (l5 : Int32) (l6 : Int32) (μ : Mm) : Option ((Int32 × Int32 × Int32) ⊕ ((Int32) ⊕ (Unit))) :=
  if l6 = 0 then (some (l3 + (1 : Int32))).bind fun v104 => (some (l5 + (1 : Int32))).bind fun v111 => f_X11_keyAt_J113 a0 l1 l2 v104 v111 l5 μ else some (.inr (.inl l3))
noncomputable def f_X11_keyAt_J89 (a0 : Nat) (l1 : Int32) (l2 : Int32) (l3 : Int32) (l4 : Int32) (l5 : Int32) (l7 : Int32) (k0 : Int32) (μ : Mm) : Option ((Int32 × Int32) ⊕ (Int32)) :=
  (some (l7 + (1 : Int32))).bind fun v91 => some (.inl (k0, v91))
noncomputable def f_X11_keyAt_L52 (a0 : Nat) (l1 : Int32) (l2 : Int32) (l3 : Int32) (l4 : Int32) (l5 : Int32) (μ : Mm) (s52 : Int32 × Int32) : Option ((Int32 × Int32) ⊕ (Int32)) :=
  if l2 ≤ s52.2 then some (.inr s52.1) else if s52.1 = 0 then some (.inr s52.1) else (sx_at (mm_S μ 13) (l4 + s52.2) μ).bind fun x70 => (f_X11_byteAt a0 (l1 + s52.2) μ).bind fun x78 => if x70 = x78 then f_X11_keyAt_J89 a0 l1 l2 l3 l4 l5 s52.2 (1 : Int32) μ else f_X11_keyAt_J89 a0 l1 l2 l3 l4 l5 s52.2 (0 : Int32) μ
noncomputable def f_X11_keyAt_J47 (a0 : Nat) (l1 : Int32) (l2 : Int32) (l3 : Int32) (l4 : Int32) (l5 : Int32) (k0 : Int32) (μ : Mm) : Option ((Int32 × Int32 × Int32) ⊕ ((Int32) ⊕ (Unit))) :=
  (whl (f_X11_keyAt_L52 a0 l1 l2 l3 l4 l5 μ) (k0, (0 : Int32))).bind (fun b52 => f_X11_keyAt_J97 a0 l1 l2 l3 l5 b52 μ)
noncomputable def f_X11_keyAt_L8 (a0 : Nat) (l1 : Int32) (l2 : Int32) (μ : Mm) (s8 : Int32 × Int32 × Int32) : Option ((Int32 × Int32 × Int32) ⊕ ((Int32) ⊕ (Unit))) :=
  (sx_len (mm_S μ 13) μ).bind fun x12 => if x12 ≤ s8.2.2 then some (.inr (.inr ())) else (sx_at (mm_S μ 13) s8.2.2 μ).bind fun x22 => if x22 = (32 : Int32) then if (s8.2.2 - s8.2.1) = l2 then f_X11_keyAt_J47 a0 l1 l2 s8.1 s8.2.1 s8.2.2 (1 : Int32) μ else f_X11_keyAt_J47 a0 l1 l2 s8.1 s8.2.1 s8.2.2 (0 : Int32) μ else f_X11_keyAt_J113 a0 l1 l2 s8.1 s8.2.1 s8.2.2 μ
noncomputable def f_X11_keyAt (a0 : Nat) (l1 : Int32) (l2 : Int32) (μ : Mm) : Option Int32 :=
  if (mm_K μ a0).1 = 12 then (whl (f_X11_keyAt_L8 a0 l1 l2 μ) ((0 : Int32), (0 : Int32), (0 : Int32))).bind (sm (fun b8 => some b8) (fun b8 => some (-1 : Int32))) else none
abbrev Rn_X11_keyAt (G : Gv) (Q : Option Value → Mm → Prop) (pc : Nat) (lv : List (Nat × Value)) (st : List Value) (μ : Mm) : Prop := Rn G RX11 cX11_keyAt 8 (some .int) "keyAt" (rmd 4 0 0) (Zm G 0 0 Q) 0 0 pc lv st μ
set_option maxRecDepth 100000 in
set_option maxHeartbeats 4000000 in
theorem m_X11_keyAt {G : Gv} (a0 : Nat) (l1 : Int32) (l2 : Int32) (μ : Mm) {r : Int32} (hx : f_X11_keyAt a0 l1 l2 μ = some r) : Mt G yX11_keyAt cX11_keyAt 8 (some .int) 4 0 0 [.ref a0, .int l1, .int l2] μ (fun v μ' => v = some (.int r) ∧ μ' = μ) := by
  refine Mt.of (by decide) (Nat.le_of_ble_eq_true rfl) ?_
  show Rn_X11_keyAt G (fun v μ' => v = some (.int r) ∧ μ' = μ) 0 [(0, .ref a0), (1, .int l1), (2, .int l2)] [] μ
  obtain ⟨_, h⟩ := Sat_ifp (show Sat (f_X11_keyAt a0 l1 l2 μ) (fun x => x = r) from ⟨_, hx, rfl⟩)
  refine r_iconst (v := 0) dX11_keyAt_0 (by decide) ?_
  refine r_istore_n (lv' := [(3, .int (0 : Int32)), (0, .ref a0), (1, .int l1), (2, .int l2)]) dX11_keyAt_1 rfl (by decide) rfl ?_
  refine r_iconst (v := 0) dX11_keyAt_2 (by decide) ?_
  refine r_istore (lv' := [(4, .int (0 : Int32)), (3, .int (0 : Int32)), (0, .ref a0), (1, .int l1), (2, .int l2)]) dX11_keyAt_3 (by decide) rfl ?_
  refine r_iconst (v := 0) dX11_keyAt_5 (by decide) ?_
  refine r_istore (lv' := [(5, .int (0 : Int32)), (4, .int (0 : Int32)), (3, .int (0 : Int32)), (0, .ref a0), (1, .int l1), (2, .int l2)]) dX11_keyAt_6 (by decide) rfl ?_
  refine r_sub (lv' := [(0, .ref a0), (1, .int l1), (2, .int l2), (3, .int (0 : Int32)), (4, .int (0 : Int32)), (5, .int (0 : Int32))]) [3, 4, 5, 2, 1, 0] rfl ?_
  refine whl_K (s0 := (((0 : Int32), (0 : Int32), (0 : Int32)) : Int32 × Int32 × Int32)) (RR := fun (s8 : Int32 × Int32 × Int32) => Rn_X11_keyAt G (fun v μ' => v = some (.int r) ∧ μ' = μ) 8 [(0, .ref a0), (1, .int l1), (2, .int l2), (3, .int s8.1), (4, .int s8.2.1), (5, .int s8.2.2)] [] μ) ?_ (Sat_bindK h)
  intro s8 K8 hI8 hX8 h
  have J113 : ∀ (l3_113 : Int32) (l4_113 : Int32) (l5_113 : Int32), Sat (f_X11_keyAt_J113 a0 l1 l2 l3_113 l4_113 l5_113 μ) K8 → Rn_X11_keyAt G (fun v μ' => v = some (.int r) ∧ μ' = μ) 113 [(0, .ref a0), (1, .int l1), (2, .int l2), (3, .int l3_113), (4, .int l4_113), (5, .int l5_113)] [] μ := by
    intro l3_113 l4_113 l5_113 h
    obtain ⟨v113, e113, h⟩ := Sat_bind h
    refine r_iinc (j := 5) (v := v113) (lv' := [(5, .int v113), (0, .ref a0), (1, .int l1), (2, .int l2), (3, .int l3_113), (4, .int l4_113)]) dX11_keyAt_113 rfl (iinc_v e113 (by decide)) (by decide) rfl ?_
    refine r_goto 8 dX11_keyAt_116 (by decide) ?_
    exact r_sub [1, 2, 3, 4, 5, 0] rfl (hI8 _ (Sat_some h))
  have J97 : ∀ (l3_97 : Int32) (l5_97 : Int32) (l6_97 : Int32), Sat (f_X11_keyAt_J97 a0 l1 l2 l3_97 l5_97 l6_97 μ) K8 → Rn_X11_keyAt G (fun v μ' => v = some (.int r) ∧ μ' = μ) 97 [(0, .ref a0), (1, .int l1), (2, .int l2), (3, .int l3_97), (5, .int l5_97), (6, .int l6_97)] [] μ := by
    intro l3_97 l5_97 l6_97 h
    refine r_iload dX11_keyAt_97 5 rfl ?_
    refine r_if_eq 104 dX11_keyAt_99 (by decide) (fun c99 => ?_) (fun c99 => ?_)
    · have h := Sat_pos c99 h
      obtain ⟨v104, e104, h⟩ := Sat_bind h
      refine r_iinc (j := 3) (v := v104) (lv' := [(3, .int v104), (0, .ref a0), (1, .int l1), (2, .int l2), (5, .int l5_97), (6, .int l6_97)]) dX11_keyAt_104 rfl (iinc_v e104 (by decide)) (by decide) rfl ?_
      refine r_iload dX11_keyAt_107 4 rfl ?_
      refine r_iconst (v := 1) dX11_keyAt_109 (by decide) ?_
      refine r_iadd dX11_keyAt_110 ?_
      obtain ⟨v111, e111, h⟩ := Sat_bind h
      refine r_topi (Option.some.inj e111) ?_
      refine r_istore (lv' := [(4, .int v111), (3, .int v104), (0, .ref a0), (1, .int l1), (2, .int l2), (5, .int l5_97), (6, .int l6_97)]) dX11_keyAt_111 (by decide) rfl ?_
      exact r_sub [2, 3, 4, 1, 0, 5] rfl (J113 v104 v111 l5_97 h)
    · have h := Sat_neg c99 h
      have h := hX8 _ (Sat_some h)
      refine r_iload_n dX11_keyAt_102 3 rfl ?_
      exact r_ireturn rfl (by rw [← Sat_eq h]; exact ⟨rfl, rfl⟩) dX11_keyAt_103
  have J47 : ∀ (l3_47 : Int32) (l4_47 : Int32) (l5_47 : Int32) (k0_47 : Int32), Sat (f_X11_keyAt_J47 a0 l1 l2 l3_47 l4_47 l5_47 k0_47 μ) K8 → Rn_X11_keyAt G (fun v μ' => v = some (.int r) ∧ μ' = μ) 47 [(0, .ref a0), (1, .int l1), (2, .int l2), (3, .int l3_47), (4, .int l4_47), (5, .int l5_47)] [.int k0_47] μ := by
    intro l3_47 l4_47 l5_47 k0_47 h
    refine r_istore (lv' := [(6, .int k0_47), (0, .ref a0), (1, .int l1), (2, .int l2), (3, .int l3_47), (4, .int l4_47), (5, .int l5_47)]) dX11_keyAt_47 (by decide) rfl ?_
    refine r_iconst (v := 0) dX11_keyAt_49 (by decide) ?_
    refine r_istore (lv' := [(7, .int (0 : Int32)), (6, .int k0_47), (0, .ref a0), (1, .int l1), (2, .int l2), (3, .int l3_47), (4, .int l4_47), (5, .int l5_47)]) dX11_keyAt_50 (by decide) rfl ?_
    refine r_sub (lv' := [(0, .ref a0), (1, .int l1), (2, .int l2), (3, .int l3_47), (4, .int l4_47), (5, .int l5_47), (6, .int k0_47), (7, .int (0 : Int32))]) [2, 3, 4, 5, 6, 7, 1, 0] rfl ?_
    refine whl_K (s0 := ((k0_47, (0 : Int32)) : Int32 × Int32)) (RR := fun (s52 : Int32 × Int32) => Rn_X11_keyAt G (fun v μ' => v = some (.int r) ∧ μ' = μ) 52 [(0, .ref a0), (1, .int l1), (2, .int l2), (3, .int l3_47), (4, .int l4_47), (5, .int l5_47), (6, .int s52.1), (7, .int s52.2)] [] μ) ?_ (Sat_bindK h)
    intro s52 K52 hI52 hX52 h
    have J89 : ∀ (l7_89 : Int32) (k0_89 : Int32), Sat (f_X11_keyAt_J89 a0 l1 l2 l3_47 l4_47 l5_47 l7_89 k0_89 μ) K52 → Rn_X11_keyAt G (fun v μ' => v = some (.int r) ∧ μ' = μ) 89 [(0, .ref a0), (1, .int l1), (2, .int l2), (3, .int l3_47), (4, .int l4_47), (5, .int l5_47), (7, .int l7_89)] [.int k0_89] μ := by
      intro l7_89 k0_89 h
      refine r_istore (lv' := [(6, .int k0_89), (0, .ref a0), (1, .int l1), (2, .int l2), (3, .int l3_47), (4, .int l4_47), (5, .int l5_47), (7, .int l7_89)]) dX11_keyAt_89 (by decide) rfl ?_
      obtain ⟨v91, e91, h⟩ := Sat_bind h
      refine r_iinc (j := 7) (v := v91) (lv' := [(7, .int v91), (6, .int k0_89), (0, .ref a0), (1, .int l1), (2, .int l2), (3, .int l3_47), (4, .int l4_47), (5, .int l5_47)]) dX11_keyAt_91 rfl (iinc_v e91 (by decide)) (by decide) rfl ?_
      refine r_goto 52 dX11_keyAt_94 (by decide) ?_
      exact r_sub [2, 3, 4, 5, 6, 7, 1, 0] rfl (hI52 _ (Sat_some h))
    refine r_iload dX11_keyAt_52 7 rfl ?_
    refine r_iload_n dX11_keyAt_54 2 rfl ?_
    refine r_icmp_ge 97 dX11_keyAt_55 (by decide) (fun c55 => ?_) (fun c55 => ?_)
    · have h := Sat_pos c55 h
      have h := hX52 _ (Sat_some h)
      exact r_sub [0, 1, 2, 3, 5, 6] rfl (J97 l3_47 l5_47 s52.1 h)
    · have h := Sat_neg c55 h
      refine r_iload dX11_keyAt_58 6 rfl ?_
      refine r_if_eq 97 dX11_keyAt_60 (by decide) (fun c60 => ?_) (fun c60 => ?_)
      · have h := Sat_pos c60 h
        have h := hX52 _ (Sat_some h)
        exact r_sub [0, 1, 2, 3, 5, 6] rfl (J97 l3_47 l5_47 s52.1 h)
      · have h := Sat_neg c60 h
        refine r_ldcS 13 (by decide) rfl rfl dX11_keyAt_63 ?_
        refine r_iload dX11_keyAt_65 4 rfl ?_
        refine r_iload dX11_keyAt_67 7 rfl ?_
        refine r_iadd dX11_keyAt_69 ?_
        obtain ⟨x70, e70, h⟩ := Sat_bind h
        refine r_cStr [.int (l4_47 + s52.2)] [] (m_sx_at (mm_S μ 13) (l4_47 + s52.2) μ e70) ck_J0_charAt_5068e lk_X11_169 in_J0_charAt_5068e se_J0_charAt_5068e (sx_at_ix e70) rfl rfl rfl (Nat.le_of_ble_eq_true rfl) ⟨by decide, by decide⟩ ⟨Nat.zero_le _, Nat.zero_le _⟩ dX11_keyAt_70 ?_
        refine r_aload_n dX11_keyAt_73 0 rfl ?_
        refine r_iload_n dX11_keyAt_74 1 rfl ?_
        refine r_iload dX11_keyAt_75 7 rfl ?_
        refine r_iadd dX11_keyAt_77 ?_
        obtain ⟨x78, e78, h⟩ := Sat_bind h
        refine r_cV (t := 12) [.int (l1 + s52.2)] [.int x70] (m_X11_byteAt a0 (l1 + s52.2) μ e78) ck_X11_byteAt lk_X11_173 in_X11_byteAt se_X11_byteAt (kd_of e78) ⟨rfl, by decide, by decide⟩ rfl rfl (Nat.le_of_ble_eq_true rfl) ⟨by decide, by decide⟩ ⟨Nat.zero_le _, Nat.zero_le _⟩ dX11_keyAt_78 ?_
        refine r_icmp_ne 88 dX11_keyAt_81 (by decide) (fun c81 => ?_) (fun c81 => ?_)
        · have h := Sat_neg c81 h
          refine r_iconst (v := 0) dX11_keyAt_88 (by decide) ?_
          exact r_sub [0, 1, 2, 3, 4, 5, 7] rfl (J89 s52.2 (0 : Int32) h)
        · have h := Sat_pos c81 h
          refine r_iconst (v := 1) dX11_keyAt_84 (by decide) ?_
          refine r_goto 89 dX11_keyAt_85 (by decide) ?_
          exact r_sub [0, 1, 2, 3, 4, 5, 7] rfl (J89 s52.2 (1 : Int32) h)
  refine r_iload dX11_keyAt_8 5 rfl ?_
  refine r_ldcS 13 (by decide) rfl rfl dX11_keyAt_10 ?_
  obtain ⟨x12, e12, h⟩ := Sat_bind h
  refine r_cStr [] [.int s8.2.2] (m_sx_len (mm_S μ 13) μ e12) ck_J0_length_8abf5 lk_X11_163 in_J0_length_8abf5 se_J0_length_8abf5 (sx_len_ix e12) rfl rfl rfl (Nat.le_of_ble_eq_true rfl) ⟨by decide, by decide⟩ ⟨Nat.zero_le _, Nat.zero_le _⟩ dX11_keyAt_12 ?_
  refine r_icmp_ge 119 dX11_keyAt_15 (by decide) (fun c15 => ?_) (fun c15 => ?_)
  · have h := Sat_pos c15 h
    have h := hX8 _ (Sat_some h)
    refine r_iconst (v := -1) dX11_keyAt_119 (by decide) ?_
    exact r_ireturn rfl (by rw [← Sat_eq h]; exact ⟨rfl, rfl⟩) dX11_keyAt_120
  · have h := Sat_neg c15 h
    refine r_ldcS 13 (by decide) rfl rfl dX11_keyAt_18 ?_
    refine r_iload dX11_keyAt_20 5 rfl ?_
    obtain ⟨x22, e22, h⟩ := Sat_bind h
    refine r_cStr [.int s8.2.2] [] (m_sx_at (mm_S μ 13) s8.2.2 μ e22) ck_J0_charAt_5068e lk_X11_169 in_J0_charAt_5068e se_J0_charAt_5068e (sx_at_ix e22) rfl rfl rfl (Nat.le_of_ble_eq_true rfl) ⟨by decide, by decide⟩ ⟨Nat.zero_le _, Nat.zero_le _⟩ dX11_keyAt_22 ?_
    refine r_bipush (v := 32) dX11_keyAt_25 (by decide) ?_
    refine r_icmp_eq 33 dX11_keyAt_27 (by decide) (fun c27 => ?_) (fun c27 => ?_)
    · have h := Sat_pos c27 h
      refine r_iload dX11_keyAt_33 5 rfl ?_
      refine r_iload dX11_keyAt_35 4 rfl ?_
      refine r_isub dX11_keyAt_37 ?_
      refine r_iload_n dX11_keyAt_38 2 rfl ?_
      refine r_icmp_ne 46 dX11_keyAt_39 (by decide) (fun c39 => ?_) (fun c39 => ?_)
      · have h := Sat_neg c39 h
        refine r_iconst (v := 0) dX11_keyAt_46 (by decide) ?_
        exact r_sub [0, 1, 2, 3, 4, 5] rfl (J47 s8.1 s8.2.1 s8.2.2 (0 : Int32) h)
      · have h := Sat_pos c39 h
        refine r_iconst (v := 1) dX11_keyAt_42 (by decide) ?_
        refine r_goto 47 dX11_keyAt_43 (by decide) ?_
        exact r_sub [0, 1, 2, 3, 4, 5] rfl (J47 s8.1 s8.2.1 s8.2.2 (1 : Int32) h)
    · have h := Sat_neg c27 h
      refine r_goto 113 dX11_keyAt_30 (by decide) ?_
      exact r_sub [0, 1, 2, 3, 4, 5] rfl (J113 s8.1 s8.2.1 s8.2.2 h)
theorem dX11_scan_0 : decode cX11_scan 0 = .ok (.aload_n 0, 1) := by decide +kernel
theorem dX11_scan_1 : decode cX11_scan 1 = .ok (.getfield 177, 3) := by decide +kernel
theorem dX11_scan_4 : decode cX11_scan 4 = .ok (.istore_n 1, 1) := by decide +kernel
theorem dX11_scan_5 : decode cX11_scan 5 = .ok (.aload_n 0, 1) := by decide +kernel
theorem dX11_scan_6 : decode cX11_scan 6 = .ok (.iload_n 1, 1) := by decide +kernel
theorem dX11_scan_7 : decode cX11_scan 7 = .ok (.invokevirtual 173, 3) := by decide +kernel
theorem dX11_scan_10 : decode cX11_scan 10 = .ok (.bipush 32, 2) := by decide +kernel
theorem dX11_scan_12 : decode cX11_scan 12 = .ok (.if_icmp .eq 13, 3) := by decide +kernel
theorem dX11_scan_15 : decode cX11_scan 15 = .ok (.aload_n 0, 1) := by decide +kernel
theorem dX11_scan_16 : decode cX11_scan 16 = .ok (.iload_n 1, 1) := by decide +kernel
theorem dX11_scan_17 : decode cX11_scan 17 = .ok (.invokevirtual 173, 3) := by decide +kernel
theorem dX11_scan_20 : decode cX11_scan 20 = .ok (.bipush 10, 2) := by decide +kernel
theorem dX11_scan_22 : decode cX11_scan 22 = .ok (.if_icmp .ne 9, 3) := by decide +kernel
theorem dX11_scan_25 : decode cX11_scan 25 = .ok (.iinc 1 1, 3) := by decide +kernel
theorem dX11_scan_28 : decode cX11_scan 28 = .ok (.goto (-23), 3) := by decide +kernel
theorem dX11_scan_31 : decode cX11_scan 31 = .ok (.aload_n 0, 1) := by decide +kernel
theorem dX11_scan_32 : decode cX11_scan 32 = .ok (.iload_n 1, 1) := by decide +kernel
theorem dX11_scan_33 : decode cX11_scan 33 = .ok (.putfield 180, 3) := by decide +kernel
theorem dX11_scan_36 : decode cX11_scan 36 = .ok (.aload_n 0, 1) := by decide +kernel
theorem dX11_scan_37 : decode cX11_scan 37 = .ok (.iload_n 1, 1) := by decide +kernel
theorem dX11_scan_38 : decode cX11_scan 38 = .ok (.invokevirtual 173, 3) := by decide +kernel
theorem dX11_scan_41 : decode cX11_scan 41 = .ok (.istore_n 2, 1) := by decide +kernel
theorem dX11_scan_42 : decode cX11_scan 42 = .ok (.iload_n 1, 1) := by decide +kernel
theorem dX11_scan_43 : decode cX11_scan 43 = .ok (.iconst 1, 1) := by decide +kernel
theorem dX11_scan_44 : decode cX11_scan 44 = .ok (.iadd, 1) := by decide +kernel
theorem dX11_scan_45 : decode cX11_scan 45 = .ok (.istore_n 3, 1) := by decide +kernel
theorem dX11_scan_46 : decode cX11_scan 46 = .ok (.aload_n 0, 1) := by decide +kernel
theorem dX11_scan_47 : decode cX11_scan 47 = .ok (.iconst (-1), 1) := by decide +kernel
theorem dX11_scan_48 : decode cX11_scan 48 = .ok (.putfield 183, 3) := by decide +kernel
theorem dX11_scan_51 : decode cX11_scan 51 = .ok (.iload_n 2, 1) := by decide +kernel
theorem dX11_scan_52 : decode cX11_scan 52 = .ok (.iconst (-1), 1) := by decide +kernel
theorem dX11_scan_53 : decode cX11_scan 53 = .ok (.if_icmp .ne 13, 3) := by decide +kernel
theorem dX11_scan_56 : decode cX11_scan 56 = .ok (.aload_n 0, 1) := by decide +kernel
theorem dX11_scan_57 : decode cX11_scan 57 = .ok (.iconst 4, 1) := by decide +kernel
theorem dX11_scan_58 : decode cX11_scan 58 = .ok (.putfield 186, 3) := by decide +kernel
theorem dX11_scan_61 : decode cX11_scan 61 = .ok (.iload_n 1, 1) := by decide +kernel
theorem dX11_scan_62 : decode cX11_scan 62 = .ok (.istore_n 3, 1) := by decide +kernel
theorem dX11_scan_63 : decode cX11_scan 63 = .ok (.goto 207, 3) := by decide +kernel
theorem dX11_scan_66 : decode cX11_scan 66 = .ok (.iload_n 2, 1) := by decide +kernel
theorem dX11_scan_67 : decode cX11_scan 67 = .ok (.invokestatic 189, 3) := by decide +kernel
theorem dX11_scan_70 : decode cX11_scan 70 = .ok (.ifCond .eq 100, 3) := by decide +kernel
theorem dX11_scan_73 : decode cX11_scan 73 = .ok (.aload_n 0, 1) := by decide +kernel
theorem dX11_scan_74 : decode cX11_scan 74 = .ok (.lconst 0, 1) := by decide +kernel
theorem dX11_scan_75 : decode cX11_scan 75 = .ok (.putfield 193, 3) := by decide +kernel
theorem dX11_scan_78 : decode cX11_scan 78 = .ok (.iload_n 1, 1) := by decide +kernel
theorem dX11_scan_79 : decode cX11_scan 79 = .ok (.istore_n 3, 1) := by decide +kernel
theorem dX11_scan_80 : decode cX11_scan 80 = .ok (.aload_n 0, 1) := by decide +kernel
theorem dX11_scan_81 : decode cX11_scan 81 = .ok (.iload_n 3, 1) := by decide +kernel
theorem dX11_scan_82 : decode cX11_scan 82 = .ok (.invokevirtual 173, 3) := by decide +kernel
theorem dX11_scan_85 : decode cX11_scan 85 = .ok (.invokestatic 189, 3) := by decide +kernel
theorem dX11_scan_88 : decode cX11_scan 88 = .ok (.ifCond .eq 42, 3) := by decide +kernel
theorem dX11_scan_91 : decode cX11_scan 91 = .ok (.iload_n 3, 1) := by decide +kernel
theorem dX11_scan_92 : decode cX11_scan 92 = .ok (.iload_n 1, 1) := by decide +kernel
theorem dX11_scan_93 : decode cX11_scan 93 = .ok (.isub, 1) := by decide +kernel
theorem dX11_scan_94 : decode cX11_scan 94 = .ok (.bipush 8, 2) := by decide +kernel
theorem dX11_scan_96 : decode cX11_scan 96 = .ok (.if_icmp .ge 28, 3) := by decide +kernel
theorem dX11_scan_99 : decode cX11_scan 99 = .ok (.aload_n 0, 1) := by decide +kernel
theorem dX11_scan_100 : decode cX11_scan 100 = .ok (.ldc2_w 197, 3) := by decide +kernel
theorem dX11_scan_103 : decode cX11_scan 103 = .ok (.aload_n 0, 1) := by decide +kernel
theorem dX11_scan_104 : decode cX11_scan 104 = .ok (.getfield 193, 3) := by decide +kernel
theorem dX11_scan_107 : decode cX11_scan 107 = .ok (.lmul, 1) := by decide +kernel
theorem dX11_scan_108 : decode cX11_scan 108 = .ok (.aload_n 0, 1) := by decide +kernel
theorem dX11_scan_109 : decode cX11_scan 109 = .ok (.iload_n 3, 1) := by decide +kernel
theorem dX11_scan_110 : decode cX11_scan 110 = .ok (.invokevirtual 173, 3) := by decide +kernel
theorem dX11_scan_113 : decode cX11_scan 113 = .ok (.i2l, 1) := by decide +kernel
theorem dX11_scan_114 : decode cX11_scan 114 = .ok (.ladd, 1) := by decide +kernel
theorem dX11_scan_115 : decode cX11_scan 115 = .ok (.ldc2_w 199, 3) := by decide +kernel
theorem dX11_scan_118 : decode cX11_scan 118 = .ok (.lsub, 1) := by decide +kernel
theorem dX11_scan_119 : decode cX11_scan 119 = .ok (.lconst 1, 1) := by decide +kernel
theorem dX11_scan_120 : decode cX11_scan 120 = .ok (.ladd, 1) := by decide +kernel
theorem dX11_scan_121 : decode cX11_scan 121 = .ok (.putfield 193, 3) := by decide +kernel
theorem dX11_scan_124 : decode cX11_scan 124 = .ok (.iinc 3 1, 3) := by decide +kernel
theorem dX11_scan_127 : decode cX11_scan 127 = .ok (.goto (-47), 3) := by decide +kernel
theorem dX11_scan_130 : decode cX11_scan 130 = .ok (.aload_n 0, 1) := by decide +kernel
theorem dX11_scan_131 : decode cX11_scan 131 = .ok (.iload_n 3, 1) := by decide +kernel
theorem dX11_scan_132 : decode cX11_scan 132 = .ok (.iload_n 1, 1) := by decide +kernel
theorem dX11_scan_133 : decode cX11_scan 133 = .ok (.isub, 1) := by decide +kernel
theorem dX11_scan_134 : decode cX11_scan 134 = .ok (.bipush 8, 2) := by decide +kernel
theorem dX11_scan_136 : decode cX11_scan 136 = .ok (.if_icmp .le 7, 3) := by decide +kernel
theorem dX11_scan_139 : decode cX11_scan 139 = .ok (.iconst 0, 1) := by decide +kernel
theorem dX11_scan_140 : decode cX11_scan 140 = .ok (.goto 4, 3) := by decide +kernel
theorem dX11_scan_143 : decode cX11_scan 143 = .ok (.iconst 1, 1) := by decide +kernel
theorem dX11_scan_144 : decode cX11_scan 144 = .ok (.putfield 186, 3) := by decide +kernel
theorem dX11_scan_147 : decode cX11_scan 147 = .ok (.aload_n 0, 1) := by decide +kernel
theorem dX11_scan_148 : decode cX11_scan 148 = .ok (.getfield 186, 3) := by decide +kernel
theorem dX11_scan_151 : decode cX11_scan 151 = .ok (.iconst 1, 1) := by decide +kernel
theorem dX11_scan_152 : decode cX11_scan 152 = .ok (.if_icmp .ne 118, 3) := by decide +kernel
theorem dX11_scan_155 : decode cX11_scan 155 = .ok (.aload_n 0, 1) := by decide +kernel
theorem dX11_scan_156 : decode cX11_scan 156 = .ok (.aload_n 0, 1) := by decide +kernel
theorem dX11_scan_157 : decode cX11_scan 157 = .ok (.iload_n 1, 1) := by decide +kernel
theorem dX11_scan_158 : decode cX11_scan 158 = .ok (.iload_n 3, 1) := by decide +kernel
theorem dX11_scan_159 : decode cX11_scan 159 = .ok (.iload_n 1, 1) := by decide +kernel
theorem dX11_scan_160 : decode cX11_scan 160 = .ok (.isub, 1) := by decide +kernel
theorem dX11_scan_161 : decode cX11_scan 161 = .ok (.invokevirtual 201, 3) := by decide +kernel
theorem dX11_scan_164 : decode cX11_scan 164 = .ok (.putfield 183, 3) := by decide +kernel
theorem dX11_scan_167 : decode cX11_scan 167 = .ok (.goto 103, 3) := by decide +kernel
theorem dX11_scan_170 : decode cX11_scan 170 = .ok (.iload_n 2, 1) := by decide +kernel
theorem dX11_scan_171 : decode cX11_scan 171 = .ok (.invokestatic 205, 3) := by decide +kernel
theorem dX11_scan_174 : decode cX11_scan 174 = .ok (.ifCond .eq 81, 3) := by decide +kernel
theorem dX11_scan_177 : decode cX11_scan 177 = .ok (.aload_n 0, 1) := by decide +kernel
theorem dX11_scan_178 : decode cX11_scan 178 = .ok (.iload_n 2, 1) := by decide +kernel
theorem dX11_scan_179 : decode cX11_scan 179 = .ok (.bipush 48, 2) := by decide +kernel
theorem dX11_scan_181 : decode cX11_scan 181 = .ok (.isub, 1) := by decide +kernel
theorem dX11_scan_182 : decode cX11_scan 182 = .ok (.putfield 208, 3) := by decide +kernel
theorem dX11_scan_185 : decode cX11_scan 185 = .ok (.aload_n 0, 1) := by decide +kernel
theorem dX11_scan_186 : decode cX11_scan 186 = .ok (.iload_n 3, 1) := by decide +kernel
theorem dX11_scan_187 : decode cX11_scan 187 = .ok (.invokevirtual 173, 3) := by decide +kernel
theorem dX11_scan_190 : decode cX11_scan 190 = .ok (.invokestatic 205, 3) := by decide +kernel
theorem dX11_scan_193 : decode cX11_scan 193 = .ok (.ifCond .eq 43, 3) := by decide +kernel
theorem dX11_scan_196 : decode cX11_scan 196 = .ok (.aload_n 0, 1) := by decide +kernel
theorem dX11_scan_197 : decode cX11_scan 197 = .ok (.iload_n 3, 1) := by decide +kernel
theorem dX11_scan_198 : decode cX11_scan 198 = .ok (.iload_n 1, 1) := by decide +kernel
theorem dX11_scan_199 : decode cX11_scan 199 = .ok (.isub, 1) := by decide +kernel
theorem dX11_scan_200 : decode cX11_scan 200 = .ok (.iconst 4, 1) := by decide +kernel
theorem dX11_scan_201 : decode cX11_scan 201 = .ok (.if_icmp .ge 22, 3) := by decide +kernel
theorem dX11_scan_204 : decode cX11_scan 204 = .ok (.bipush 10, 2) := by decide +kernel
theorem dX11_scan_206 : decode cX11_scan 206 = .ok (.aload_n 0, 1) := by decide +kernel
theorem dX11_scan_207 : decode cX11_scan 207 = .ok (.getfield 208, 3) := by decide +kernel
theorem dX11_scan_210 : decode cX11_scan 210 = .ok (.imul, 1) := by decide +kernel
theorem dX11_scan_211 : decode cX11_scan 211 = .ok (.aload_n 0, 1) := by decide +kernel
theorem dX11_scan_212 : decode cX11_scan 212 = .ok (.iload_n 3, 1) := by decide +kernel
theorem dX11_scan_213 : decode cX11_scan 213 = .ok (.invokevirtual 173, 3) := by decide +kernel
theorem dX11_scan_216 : decode cX11_scan 216 = .ok (.iadd, 1) := by decide +kernel
theorem dX11_scan_217 : decode cX11_scan 217 = .ok (.bipush 48, 2) := by decide +kernel
theorem dX11_scan_219 : decode cX11_scan 219 = .ok (.isub, 1) := by decide +kernel
theorem dX11_scan_220 : decode cX11_scan 220 = .ok (.goto 7, 3) := by decide +kernel
theorem dX11_scan_223 : decode cX11_scan 223 = .ok (.aload_n 0, 1) := by decide +kernel
theorem dX11_scan_224 : decode cX11_scan 224 = .ok (.getfield 208, 3) := by decide +kernel
theorem dX11_scan_227 : decode cX11_scan 227 = .ok (.putfield 208, 3) := by decide +kernel
theorem dX11_scan_230 : decode cX11_scan 230 = .ok (.iinc 3 1, 3) := by decide +kernel
theorem dX11_scan_233 : decode cX11_scan 233 = .ok (.goto (-48), 3) := by decide +kernel
theorem dX11_scan_236 : decode cX11_scan 236 = .ok (.aload_n 0, 1) := by decide +kernel
theorem dX11_scan_237 : decode cX11_scan 237 = .ok (.iload_n 3, 1) := by decide +kernel
theorem dX11_scan_238 : decode cX11_scan 238 = .ok (.iload_n 1, 1) := by decide +kernel
theorem dX11_scan_239 : decode cX11_scan 239 = .ok (.isub, 1) := by decide +kernel
theorem dX11_scan_240 : decode cX11_scan 240 = .ok (.iconst 4, 1) := by decide +kernel
theorem dX11_scan_241 : decode cX11_scan 241 = .ok (.if_icmp .le 7, 3) := by decide +kernel
theorem dX11_scan_244 : decode cX11_scan 244 = .ok (.iconst 0, 1) := by decide +kernel
theorem dX11_scan_245 : decode cX11_scan 245 = .ok (.goto 4, 3) := by decide +kernel
theorem dX11_scan_248 : decode cX11_scan 248 = .ok (.iconst 2, 1) := by decide +kernel
theorem dX11_scan_249 : decode cX11_scan 249 = .ok (.putfield 186, 3) := by decide +kernel
theorem dX11_scan_252 : decode cX11_scan 252 = .ok (.goto 18, 3) := by decide +kernel
theorem dX11_scan_255 : decode cX11_scan 255 = .ok (.aload_n 0, 1) := by decide +kernel
theorem dX11_scan_256 : decode cX11_scan 256 = .ok (.iload_n 2, 1) := by decide +kernel
theorem dX11_scan_257 : decode cX11_scan 257 = .ok (.bipush 59, 2) := by decide +kernel
theorem dX11_scan_259 : decode cX11_scan 259 = .ok (.if_icmp .ne 7, 3) := by decide +kernel
theorem dX11_scan_262 : decode cX11_scan 262 = .ok (.iconst 3, 1) := by decide +kernel
theorem dX11_scan_263 : decode cX11_scan 263 = .ok (.goto 4, 3) := by decide +kernel
theorem dX11_scan_266 : decode cX11_scan 266 = .ok (.iconst 0, 1) := by decide +kernel
theorem dX11_scan_267 : decode cX11_scan 267 = .ok (.putfield 186, 3) := by decide +kernel
theorem dX11_scan_270 : decode cX11_scan 270 = .ok (.aload_n 0, 1) := by decide +kernel
theorem dX11_scan_271 : decode cX11_scan 271 = .ok (.iload_n 3, 1) := by decide +kernel
theorem dX11_scan_272 : decode cX11_scan 272 = .ok (.putfield 177, 3) := by decide +kernel
theorem dX11_scan_275 : decode cX11_scan 275 = .ok (.return_, 1) := by decide +kernel
noncomputable def f_X11_scan_J25 (a0 : Nat) (l1 : Int32) (μ : Mm) : Option ((Int32) ⊕ (Int32)) :=
  (some (l1 + (1 : Int32))).bind fun v25 => some (.inl v25)
noncomputable def f_X11_scan_J270 (a0 : Nat) (l3 : Int32) (μ : Mm) : Option Mm :=
  (pf_I 12 6 a0 l3 μ).bind fun μ272 => some μ272
noncomputable def f_X11_scan_J267 (a0 : Nat) (l3 : Int32) (k0 : Nat) (k1 : Int32) (μ : Mm) : Option Mm :=
  (pf_I 12 3 k0 k1 μ).bind fun μ267 => f_X11_scan_J270 a0 l3 μ267
noncomputable def f_X11_scan_J249 (a0 : Nat) (l3 : Int32) (k0 : Nat) (k1 : Int32) (μ : Mm) : Option Mm :=
  (pf_I 12 3 k0 k1 μ).bind fun μ249 => f_X11_scan_J270 a0 l3 μ249
noncomputable def f_X11_scan_J236 (a0 : Nat) (l1 : Int32) (l3 : Int32) (μ : Mm) : Option Mm :=
  if (l3 - l1) ≤ (4 : Int32) then f_X11_scan_J249 a0 l3 a0 (2 : Int32) μ else f_X11_scan_J249 a0 l3 a0 (0 : Int32) μ
noncomputable def f_X11_scan_J227 (a0 : Nat) (l1 : Int32) (l3 : Int32) (k0 : Nat) (k1 : Int32) (μ : Mm) : Option ((Int32 × Mm) ⊕ (Int32 × Mm)) :=
  (pf_I 12 7 k0 k1 μ).bind fun μ227 => (some (l3 + (1 : Int32))).bind fun v230 => some (.inl (v230, μ227))
noncomputable def f_X11_scan_L185 (a0 : Nat) (l1 : Int32) (s185 : Int32 × Mm) : Option ((Int32 × Mm) ⊕ (Int32 × Mm)) :=
  (f_X11_byteAt a0 s185.1 s185.2).bind fun x187 => (f_X11_isDigit x187 s185.2).bind fun x190 => if x190 = 0 then some (.inr (s185.1, s185.2)) else if (4 : Int32) ≤ (s185.1 - l1) then (gf_I 12 7 a0 s185.2).bind fun x224 => f_X11_scan_J227 a0 l1 s185.1 a0 x224 s185.2 else (gf_I 12 7 a0 s185.2).bind fun x207 => (f_X11_byteAt a0 s185.1 s185.2).bind fun x213 => f_X11_scan_J227 a0 l1 s185.1 a0 ((((10 : Int32) * x207) + x213) - (48 : Int32)) s185.2
noncomputable def f_X11_scan_J144 (a0 : Nat) (l1 : Int32) (l3 : Int32) (k0 : Nat) (k1 : Int32) (μ : Mm) : Option Mm :=
  (pf_I 12 3 k0 k1 μ).bind fun μ144 => (gf_I 12 3 a0 μ144).bind fun x148 => if x148 = (1 : Int32) then (f_X11_keyAt a0 l1 (l3 - l1) μ144).bind fun x161 => (pf_I 12 4 a0 x161 μ144).bind fun μ164 => f_X11_scan_J270 a0 l3 μ164 else f_X11_scan_J270 a0 l3 μ144
noncomputable def f_X11_scan_J130 (a0 : Nat) (l1 : Int32) (l3 : Int32) (μ : Mm) : Option Mm :=
  if (l3 - l1) ≤ (8 : Int32) then f_X11_scan_J144 a0 l1 l3 a0 (1 : Int32) μ else f_X11_scan_J144 a0 l1 l3 a0 (0 : Int32) μ
noncomputable def f_X11_scan_J124 (a0 : Nat) (l1 : Int32) (l3 : Int32) (μ : Mm) : Option ((Int32 × Mm) ⊕ (Int32 × Mm)) :=
  (some (l3 + (1 : Int32))).bind fun v124 => some (.inl (v124, μ))
noncomputable def f_X11_scan_L80 (a0 : Nat) (l1 : Int32) (s80 : Int32 × Mm) : Option ((Int32 × Mm) ⊕ (Int32 × Mm)) :=
  (f_X11_byteAt a0 s80.1 s80.2).bind fun x82 => (f_X11_isSmall x82 s80.2).bind fun x85 => if x85 = 0 then some (.inr (s80.1, s80.2)) else if (8 : Int32) ≤ (s80.1 - l1) then f_X11_scan_J124 a0 l1 s80.1 s80.2 else (gf_L 12 10 a0 s80.2).bind fun x104 => (f_X11_byteAt a0 s80.1 s80.2).bind fun x110 => (pf_L 12 10 a0 (((((32 : Int64) * x104) + x110.toInt64) - (97 : Int64)) + (1 : Int64)) s80.2).bind fun μ121 => f_X11_scan_J124 a0 l1 s80.1 μ121
noncomputable def f_X11_scan_J31 (a0 : Nat) (l1 : Int32) (μ : Mm) : Option Mm :=
  (pf_I 12 5 a0 l1 μ).bind fun μ33 => (f_X11_byteAt a0 l1 μ33).bind fun x38 => (some (l1 + (1 : Int32))).bind fun v45 => (pf_I 12 4 a0 (-1 : Int32) μ33).bind fun μ48 => if x38 = (-1 : Int32) then (pf_I 12 3 a0 (4 : Int32) μ48).bind fun μ58 => f_X11_scan_J270 a0 l1 μ58 else (f_X11_isSmall x38 μ48).bind fun x67 => if x67 = 0 then (f_X11_isDigit x38 μ48).bind fun x171 => if x171 = 0 then if x38 = (59 : Int32) then f_X11_scan_J267 a0 v45 a0 (3 : Int32) μ48 else f_X11_scan_J267 a0 v45 a0 (0 : Int32) μ48 else (pf_I 12 7 a0 (x38 - (48 : Int32)) μ48).bind fun μ182 => (whl (f_X11_scan_L185 a0 l1) (v45, μ182)).bind (fun b185 => f_X11_scan_J236 a0 l1 b185.1 b185.2) else (pf_L 12 10 a0 (0 : Int64) μ48).bind fun μ75 => (whl (f_X11_scan_L80 a0 l1) (l1, μ75)).bind (fun b80 => f_X11_scan_J130 a0 l1 b80.1 b80.2)
noncomputable def f_X11_scan_L5 (a0 : Nat) (μ : Mm) (s5 : Int32) : Option ((Int32) ⊕ (Int32)) :=
  (f_X11_byteAt a0 s5 μ).bind fun x7 => if x7 = (32 : Int32) then f_X11_scan_J25 a0 s5 μ else (f_X11_byteAt a0 s5 μ).bind fun x17 => if x17 = (10 : Int32) then f_X11_scan_J25 a0 s5 μ else some (.inr s5)
noncomputable def f_X11_scan (a0 : Nat) (μ : Mm) : Option Mm :=
  if (mm_K μ a0).1 = 12 then (gf_I 12 6 a0 μ).bind fun x1 => (whl (f_X11_scan_L5 a0 μ) x1).bind (fun b5 => f_X11_scan_J31 a0 b5 μ) else none
abbrev Rn_X11_scan (G : Gv) (Q : Option Value → Mm → Prop) (pc : Nat) (lv : List (Nat × Value)) (st : List Value) (μ : Mm) : Prop := Rn G RX11 cX11_scan 4 none "scan" (rmd 5 0 0) (Zm G 0 0 Q) 0 0 pc lv st μ
set_option maxRecDepth 100000 in
set_option maxHeartbeats 4000000 in
theorem m_X11_scan {G : Gv} (a0 : Nat) (μ : Mm) {r : Mm} (hx : f_X11_scan a0 μ = some r) : Mt G yX11_scan cX11_scan 4 none 5 0 0 [.ref a0] μ (fun v μ' => v = none ∧ μ' = r) := by
  refine Mt.of (by decide) (Nat.le_of_ble_eq_true rfl) ?_
  show Rn_X11_scan G (fun v μ' => v = none ∧ μ' = r) 0 [(0, .ref a0)] [] μ
  obtain ⟨_, h⟩ := Sat_ifp (show Sat (f_X11_scan a0 μ) (fun x => x = r) from ⟨_, hx, rfl⟩)
  have J270 : ∀ (a0_270 : Nat) (l3_270 : Int32) (μ_270 : Mm), Sat (f_X11_scan_J270 a0_270 l3_270 μ_270) (fun x => x = r) → Rn_X11_scan G (fun v μ' => v = none ∧ μ' = r) 270 [(0, .ref a0_270), (3, .int l3_270)] [] μ_270 := by
    intro a0_270 l3_270 μ_270 h
    refine r_aload_n dX11_scan_270 0 rfl ?_
    refine r_iload_n dX11_scan_271 1 rfl ?_
    obtain ⟨μ272, e272, h⟩ := Sat_bind h
    refine r_putI fk_X11_177 rfl rfl e272 dX11_scan_272 ?_
    exact r_vreturn rfl (by rw [← Sat_eq h]; exact ⟨rfl, rfl⟩) dX11_scan_275
  have J267 : ∀ (a0_267 : Nat) (l3_267 : Int32) (k0_267 : Nat) (k1_267 : Int32) (μ_267 : Mm), Sat (f_X11_scan_J267 a0_267 l3_267 k0_267 k1_267 μ_267) (fun x => x = r) → Rn_X11_scan G (fun v μ' => v = none ∧ μ' = r) 267 [(0, .ref a0_267), (3, .int l3_267)] [.int k1_267, .ref k0_267] μ_267 := by
    intro a0_267 l3_267 k0_267 k1_267 μ_267 h
    obtain ⟨μ267, e267, h⟩ := Sat_bind h
    refine r_putI fk_X11_186 rfl rfl e267 dX11_scan_267 ?_
    exact r_sub [0, 1] rfl (J270 a0_267 l3_267 μ267 h)
  have J249 : ∀ (a0_249 : Nat) (l3_249 : Int32) (k0_249 : Nat) (k1_249 : Int32) (μ_249 : Mm), Sat (f_X11_scan_J249 a0_249 l3_249 k0_249 k1_249 μ_249) (fun x => x = r) → Rn_X11_scan G (fun v μ' => v = none ∧ μ' = r) 249 [(0, .ref a0_249), (3, .int l3_249)] [.int k1_249, .ref k0_249] μ_249 := by
    intro a0_249 l3_249 k0_249 k1_249 μ_249 h
    obtain ⟨μ249, e249, h⟩ := Sat_bind h
    refine r_putI fk_X11_186 rfl rfl e249 dX11_scan_249 ?_
    refine r_goto 270 dX11_scan_252 (by decide) ?_
    exact r_sub [0, 1] rfl (J270 a0_249 l3_249 μ249 h)
  have J236 : ∀ (a0_236 : Nat) (l1_236 : Int32) (l3_236 : Int32) (μ_236 : Mm), Sat (f_X11_scan_J236 a0_236 l1_236 l3_236 μ_236) (fun x => x = r) → Rn_X11_scan G (fun v μ' => v = none ∧ μ' = r) 236 [(0, .ref a0_236), (1, .int l1_236), (3, .int l3_236)] [] μ_236 := by
    intro a0_236 l1_236 l3_236 μ_236 h
    refine r_aload_n dX11_scan_236 0 rfl ?_
    refine r_iload_n dX11_scan_237 2 rfl ?_
    refine r_iload_n dX11_scan_238 1 rfl ?_
    refine r_isub dX11_scan_239 ?_
    refine r_iconst (v := 4) dX11_scan_240 (by decide) ?_
    refine r_icmp_le 248 dX11_scan_241 (by decide) (fun c241 => ?_) (fun c241 => ?_)
    · have h := Sat_pos c241 h
      refine r_iconst (v := 2) dX11_scan_248 (by decide) ?_
      exact r_sub [0, 2] rfl (J249 a0_236 l3_236 a0_236 (2 : Int32) μ_236 h)
    · have h := Sat_neg c241 h
      refine r_iconst (v := 0) dX11_scan_244 (by decide) ?_
      refine r_goto 249 dX11_scan_245 (by decide) ?_
      exact r_sub [0, 2] rfl (J249 a0_236 l3_236 a0_236 (0 : Int32) μ_236 h)
  have J144 : ∀ (a0_144 : Nat) (l1_144 : Int32) (l3_144 : Int32) (k0_144 : Nat) (k1_144 : Int32) (μ_144 : Mm), Sat (f_X11_scan_J144 a0_144 l1_144 l3_144 k0_144 k1_144 μ_144) (fun x => x = r) → Rn_X11_scan G (fun v μ' => v = none ∧ μ' = r) 144 [(0, .ref a0_144), (1, .int l1_144), (3, .int l3_144)] [.int k1_144, .ref k0_144] μ_144 := by
    intro a0_144 l1_144 l3_144 k0_144 k1_144 μ_144 h
    obtain ⟨μ144, e144, h⟩ := Sat_bind h
    refine r_putI fk_X11_186 rfl rfl e144 dX11_scan_144 ?_
    refine r_aload_n dX11_scan_147 0 rfl ?_
    obtain ⟨x148, e148, h⟩ := Sat_bind h
    refine r_getI fk_X11_186 rfl e148 dX11_scan_148 ?_
    refine r_iconst (v := 1) dX11_scan_151 (by decide) ?_
    refine r_icmp_ne 270 dX11_scan_152 (by decide) (fun c152 => ?_) (fun c152 => ?_)
    · have h := Sat_neg c152 h
      exact r_sub [0, 2] rfl (J270 a0_144 l3_144 μ144 h)
    · have h := Sat_pos c152 h
      refine r_aload_n dX11_scan_155 0 rfl ?_
      refine r_aload_n dX11_scan_156 0 rfl ?_
      refine r_iload_n dX11_scan_157 1 rfl ?_
      refine r_iload_n dX11_scan_158 2 rfl ?_
      refine r_iload_n dX11_scan_159 1 rfl ?_
      refine r_isub dX11_scan_160 ?_
      obtain ⟨x161, e161, h⟩ := Sat_bind h
      refine r_cV (t := 12) [.int l1_144, .int (l3_144 - l1_144)] [.ref a0_144] (m_X11_keyAt a0_144 l1_144 (l3_144 - l1_144) μ144 e161) ck_X11_keyAt lk_X11_201 in_X11_keyAt se_X11_keyAt (kd_of e161) ⟨rfl, by decide, by decide⟩ rfl rfl (Nat.le_of_ble_eq_true rfl) ⟨by decide, by decide⟩ ⟨Nat.zero_le _, Nat.zero_le _⟩ dX11_scan_161 ?_
      obtain ⟨μ164, e164, h⟩ := Sat_bind h
      refine r_putI fk_X11_183 rfl rfl e164 dX11_scan_164 ?_
      refine r_goto 270 dX11_scan_167 (by decide) ?_
      exact r_sub [0, 2] rfl (J270 a0_144 l3_144 μ164 h)
  have J130 : ∀ (a0_130 : Nat) (l1_130 : Int32) (l3_130 : Int32) (μ_130 : Mm), Sat (f_X11_scan_J130 a0_130 l1_130 l3_130 μ_130) (fun x => x = r) → Rn_X11_scan G (fun v μ' => v = none ∧ μ' = r) 130 [(0, .ref a0_130), (1, .int l1_130), (3, .int l3_130)] [] μ_130 := by
    intro a0_130 l1_130 l3_130 μ_130 h
    refine r_aload_n dX11_scan_130 0 rfl ?_
    refine r_iload_n dX11_scan_131 2 rfl ?_
    refine r_iload_n dX11_scan_132 1 rfl ?_
    refine r_isub dX11_scan_133 ?_
    refine r_bipush (v := 8) dX11_scan_134 (by decide) ?_
    refine r_icmp_le 143 dX11_scan_136 (by decide) (fun c136 => ?_) (fun c136 => ?_)
    · have h := Sat_pos c136 h
      refine r_iconst (v := 1) dX11_scan_143 (by decide) ?_
      exact r_sub [0, 1, 2] rfl (J144 a0_130 l1_130 l3_130 a0_130 (1 : Int32) μ_130 h)
    · have h := Sat_neg c136 h
      refine r_iconst (v := 0) dX11_scan_139 (by decide) ?_
      refine r_goto 144 dX11_scan_140 (by decide) ?_
      exact r_sub [0, 1, 2] rfl (J144 a0_130 l1_130 l3_130 a0_130 (0 : Int32) μ_130 h)
  have J31 : ∀ (a0_31 : Nat) (l1_31 : Int32) (μ_31 : Mm), Sat (f_X11_scan_J31 a0_31 l1_31 μ_31) (fun x => x = r) → Rn_X11_scan G (fun v μ' => v = none ∧ μ' = r) 31 [(0, .ref a0_31), (1, .int l1_31)] [] μ_31 := by
    intro a0_31 l1_31 μ_31 h
    refine r_aload_n dX11_scan_31 0 rfl ?_
    refine r_iload_n dX11_scan_32 1 rfl ?_
    obtain ⟨μ33, e33, h⟩ := Sat_bind h
    refine r_putI fk_X11_180 rfl rfl e33 dX11_scan_33 ?_
    refine r_aload_n dX11_scan_36 0 rfl ?_
    refine r_iload_n dX11_scan_37 1 rfl ?_
    obtain ⟨x38, e38, h⟩ := Sat_bind h
    refine r_cV (t := 12) [.int l1_31] [] (m_X11_byteAt a0_31 l1_31 μ33 e38) ck_X11_byteAt lk_X11_173 in_X11_byteAt se_X11_byteAt (kd_of e38) ⟨rfl, by decide, by decide⟩ rfl rfl (Nat.le_of_ble_eq_true rfl) ⟨by decide, by decide⟩ ⟨Nat.zero_le _, Nat.zero_le _⟩ dX11_scan_38 ?_
    refine r_istore_n (lv' := [(2, .int x38), (0, .ref a0_31), (1, .int l1_31)]) dX11_scan_41 rfl (by decide) rfl ?_
    refine r_iload_n dX11_scan_42 2 rfl ?_
    refine r_iconst (v := 1) dX11_scan_43 (by decide) ?_
    refine r_iadd dX11_scan_44 ?_
    obtain ⟨v45, e45, h⟩ := Sat_bind h
    refine r_topi (Option.some.inj e45) ?_
    refine r_istore_n (lv' := [(3, .int v45), (2, .int x38), (0, .ref a0_31), (1, .int l1_31)]) dX11_scan_45 rfl (by decide) rfl ?_
    refine r_aload_n dX11_scan_46 2 rfl ?_
    refine r_iconst (v := -1) dX11_scan_47 (by decide) ?_
    obtain ⟨μ48, e48, h⟩ := Sat_bind h
    refine r_putI fk_X11_183 rfl rfl e48 dX11_scan_48 ?_
    refine r_iload_n dX11_scan_51 1 rfl ?_
    refine r_iconst (v := -1) dX11_scan_52 (by decide) ?_
    refine r_icmp_ne 66 dX11_scan_53 (by decide) (fun c53 => ?_) (fun c53 => ?_)
    · have h := Sat_neg c53 h
      refine r_iload_n dX11_scan_66 1 rfl ?_
      obtain ⟨x67, e67, h⟩ := Sat_bind h
      refine r_cS [.int x38] [] (m_X11_isSmall x38 μ48 e67) ck_X11_isSmall lk_X11_189 st_X11_isSmall rfl rfl (Nat.le_of_ble_eq_true rfl) ⟨by decide, by decide⟩ ⟨Nat.zero_le _, Nat.zero_le _⟩ dX11_scan_67 ?_
      refine r_if_eq 170 dX11_scan_70 (by decide) (fun c70 => ?_) (fun c70 => ?_)
      · have h := Sat_pos c70 h
        refine r_iload_n dX11_scan_170 1 rfl ?_
        obtain ⟨x171, e171, h⟩ := Sat_bind h
        refine r_cS [.int x38] [] (m_X11_isDigit x38 μ48 e171) ck_X11_isDigit lk_X11_205 st_X11_isDigit rfl rfl (Nat.le_of_ble_eq_true rfl) ⟨by decide, by decide⟩ ⟨Nat.zero_le _, Nat.zero_le _⟩ dX11_scan_171 ?_
        refine r_if_eq 255 dX11_scan_174 (by decide) (fun c174 => ?_) (fun c174 => ?_)
        · have h := Sat_pos c174 h
          refine r_aload_n dX11_scan_255 2 rfl ?_
          refine r_iload_n dX11_scan_256 1 rfl ?_
          refine r_bipush (v := 59) dX11_scan_257 (by decide) ?_
          refine r_icmp_ne 266 dX11_scan_259 (by decide) (fun c259 => ?_) (fun c259 => ?_)
          · have h := Sat_neg c259 h
            refine r_iconst (v := 0) dX11_scan_266 (by decide) ?_
            exact r_sub [2, 0] rfl (J267 a0_31 v45 a0_31 (0 : Int32) μ48 h)
          · have h := Sat_pos c259 h
            refine r_iconst (v := 3) dX11_scan_262 (by decide) ?_
            refine r_goto 267 dX11_scan_263 (by decide) ?_
            exact r_sub [2, 0] rfl (J267 a0_31 v45 a0_31 (3 : Int32) μ48 h)
        · have h := Sat_neg c174 h
          refine r_aload_n dX11_scan_177 2 rfl ?_
          refine r_iload_n dX11_scan_178 1 rfl ?_
          refine r_bipush (v := 48) dX11_scan_179 (by decide) ?_
          refine r_isub dX11_scan_181 ?_
          obtain ⟨μ182, e182, h⟩ := Sat_bind h
          refine r_putI fk_X11_208 rfl rfl e182 dX11_scan_182 ?_
          refine r_sub (lv' := [(0, .ref a0_31), (1, .int l1_31), (3, .int v45)]) [2, 3, 0] rfl ?_
          refine whl_K (s0 := ((v45, μ182) : Int32 × Mm)) (RR := fun (s185 : Int32 × Mm) => Rn_X11_scan G (fun v μ' => v = none ∧ μ' = r) 185 [(0, .ref a0_31), (1, .int l1_31), (3, .int s185.1)] [] s185.2) ?_ (Sat_bindK h)
          intro s185 K185 hI185 hX185 h
          have J227 : ∀ (l3_227 : Int32) (k0_227 : Nat) (k1_227 : Int32) (μ_227 : Mm), Sat (f_X11_scan_J227 a0_31 l1_31 l3_227 k0_227 k1_227 μ_227) K185 → Rn_X11_scan G (fun v μ' => v = none ∧ μ' = r) 227 [(0, .ref a0_31), (1, .int l1_31), (3, .int l3_227)] [.int k1_227, .ref k0_227] μ_227 := by
            intro l3_227 k0_227 k1_227 μ_227 h
            obtain ⟨μ227, e227, h⟩ := Sat_bind h
            refine r_putI fk_X11_208 rfl rfl e227 dX11_scan_227 ?_
            obtain ⟨v230, e230, h⟩ := Sat_bind h
            refine r_iinc (j := 2) (v := v230) (lv' := [(3, .int v230), (0, .ref a0_31), (1, .int l1_31)]) dX11_scan_230 rfl (iinc_v e230 (by decide)) (by decide) rfl ?_
            refine r_goto 185 dX11_scan_233 (by decide) ?_
            exact r_sub [1, 2, 0] rfl (hI185 _ (Sat_some h))
          refine r_aload_n dX11_scan_185 0 rfl ?_
          refine r_iload_n dX11_scan_186 2 rfl ?_
          obtain ⟨x187, e187, h⟩ := Sat_bind h
          refine r_cV (t := 12) [.int s185.1] [] (m_X11_byteAt a0_31 s185.1 s185.2 e187) ck_X11_byteAt lk_X11_173 in_X11_byteAt se_X11_byteAt (kd_of e187) ⟨rfl, by decide, by decide⟩ rfl rfl (Nat.le_of_ble_eq_true rfl) ⟨by decide, by decide⟩ ⟨Nat.zero_le _, Nat.zero_le _⟩ dX11_scan_187 ?_
          obtain ⟨x190, e190, h⟩ := Sat_bind h
          refine r_cS [.int x187] [] (m_X11_isDigit x187 s185.2 e190) ck_X11_isDigit lk_X11_205 st_X11_isDigit rfl rfl (Nat.le_of_ble_eq_true rfl) ⟨by decide, by decide⟩ ⟨Nat.zero_le _, Nat.zero_le _⟩ dX11_scan_190 ?_
          refine r_if_eq 236 dX11_scan_193 (by decide) (fun c193 => ?_) (fun c193 => ?_)
          · have h := Sat_pos c193 h
            have h := hX185 _ (Sat_some h)
            exact r_sub [0, 1, 2] rfl (J236 a0_31 l1_31 s185.1 s185.2 h)
          · have h := Sat_neg c193 h
            refine r_aload_n dX11_scan_196 0 rfl ?_
            refine r_iload_n dX11_scan_197 2 rfl ?_
            refine r_iload_n dX11_scan_198 1 rfl ?_
            refine r_isub dX11_scan_199 ?_
            refine r_iconst (v := 4) dX11_scan_200 (by decide) ?_
            refine r_icmp_ge 223 dX11_scan_201 (by decide) (fun c201 => ?_) (fun c201 => ?_)
            · have h := Sat_pos c201 h
              refine r_aload_n dX11_scan_223 0 rfl ?_
              obtain ⟨x224, e224, h⟩ := Sat_bind h
              refine r_getI fk_X11_208 rfl e224 dX11_scan_224 ?_
              exact r_sub [0, 1, 2] rfl (J227 s185.1 a0_31 x224 s185.2 h)
            · have h := Sat_neg c201 h
              refine r_bipush (v := 10) dX11_scan_204 (by decide) ?_
              refine r_aload_n dX11_scan_206 0 rfl ?_
              obtain ⟨x207, e207, h⟩ := Sat_bind h
              refine r_getI fk_X11_208 rfl e207 dX11_scan_207 ?_
              refine r_imul dX11_scan_210 ?_
              refine r_aload_n dX11_scan_211 0 rfl ?_
              refine r_iload_n dX11_scan_212 2 rfl ?_
              obtain ⟨x213, e213, h⟩ := Sat_bind h
              refine r_cV (t := 12) [.int s185.1] [.int ((10 : Int32) * x207), .ref a0_31] (m_X11_byteAt a0_31 s185.1 s185.2 e213) ck_X11_byteAt lk_X11_173 in_X11_byteAt se_X11_byteAt (kd_of e213) ⟨rfl, by decide, by decide⟩ rfl rfl (Nat.le_of_ble_eq_true rfl) ⟨by decide, by decide⟩ ⟨Nat.zero_le _, Nat.zero_le _⟩ dX11_scan_213 ?_
              refine r_iadd dX11_scan_216 ?_
              refine r_bipush (v := 48) dX11_scan_217 (by decide) ?_
              refine r_isub dX11_scan_219 ?_
              refine r_goto 227 dX11_scan_220 (by decide) ?_
              exact r_sub [0, 1, 2] rfl (J227 s185.1 a0_31 ((((10 : Int32) * x207) + x213) - (48 : Int32)) s185.2 h)
      · have h := Sat_neg c70 h
        refine r_aload_n dX11_scan_73 2 rfl ?_
        refine r_lconst (v := 0) dX11_scan_74 (by decide) ?_
        obtain ⟨μ75, e75, h⟩ := Sat_bind h
        refine r_putL fk_X11_193 rfl rfl e75 dX11_scan_75 ?_
        refine r_iload_n dX11_scan_78 3 rfl ?_
        refine r_istore_n (lv' := [(3, .int l1_31), (2, .int x38), (0, .ref a0_31), (1, .int l1_31)]) dX11_scan_79 rfl (by decide) rfl ?_
        refine r_sub (lv' := [(0, .ref a0_31), (1, .int l1_31), (3, .int l1_31)]) [2, 3, 0] rfl ?_
        refine whl_K (s0 := ((l1_31, μ75) : Int32 × Mm)) (RR := fun (s80 : Int32 × Mm) => Rn_X11_scan G (fun v μ' => v = none ∧ μ' = r) 80 [(0, .ref a0_31), (1, .int l1_31), (3, .int s80.1)] [] s80.2) ?_ (Sat_bindK h)
        intro s80 K80 hI80 hX80 h
        have J124 : ∀ (l3_124 : Int32) (μ_124 : Mm), Sat (f_X11_scan_J124 a0_31 l1_31 l3_124 μ_124) K80 → Rn_X11_scan G (fun v μ' => v = none ∧ μ' = r) 124 [(0, .ref a0_31), (1, .int l1_31), (3, .int l3_124)] [] μ_124 := by
          intro l3_124 μ_124 h
          obtain ⟨v124, e124, h⟩ := Sat_bind h
          refine r_iinc (j := 2) (v := v124) (lv' := [(3, .int v124), (0, .ref a0_31), (1, .int l1_31)]) dX11_scan_124 rfl (iinc_v e124 (by decide)) (by decide) rfl ?_
          refine r_goto 80 dX11_scan_127 (by decide) ?_
          exact r_sub [1, 2, 0] rfl (hI80 _ (Sat_some h))
        refine r_aload_n dX11_scan_80 0 rfl ?_
        refine r_iload_n dX11_scan_81 2 rfl ?_
        obtain ⟨x82, e82, h⟩ := Sat_bind h
        refine r_cV (t := 12) [.int s80.1] [] (m_X11_byteAt a0_31 s80.1 s80.2 e82) ck_X11_byteAt lk_X11_173 in_X11_byteAt se_X11_byteAt (kd_of e82) ⟨rfl, by decide, by decide⟩ rfl rfl (Nat.le_of_ble_eq_true rfl) ⟨by decide, by decide⟩ ⟨Nat.zero_le _, Nat.zero_le _⟩ dX11_scan_82 ?_
        obtain ⟨x85, e85, h⟩ := Sat_bind h
        refine r_cS [.int x82] [] (m_X11_isSmall x82 s80.2 e85) ck_X11_isSmall lk_X11_189 st_X11_isSmall rfl rfl (Nat.le_of_ble_eq_true rfl) ⟨by decide, by decide⟩ ⟨Nat.zero_le _, Nat.zero_le _⟩ dX11_scan_85 ?_
        refine r_if_eq 130 dX11_scan_88 (by decide) (fun c88 => ?_) (fun c88 => ?_)
        · have h := Sat_pos c88 h
          have h := hX80 _ (Sat_some h)
          exact r_sub [0, 1, 2] rfl (J130 a0_31 l1_31 s80.1 s80.2 h)
        · have h := Sat_neg c88 h
          refine r_iload_n dX11_scan_91 2 rfl ?_
          refine r_iload_n dX11_scan_92 1 rfl ?_
          refine r_isub dX11_scan_93 ?_
          refine r_bipush (v := 8) dX11_scan_94 (by decide) ?_
          refine r_icmp_ge 124 dX11_scan_96 (by decide) (fun c96 => ?_) (fun c96 => ?_)
          · have h := Sat_pos c96 h
            exact r_sub [0, 1, 2] rfl (J124 s80.1 s80.2 h)
          · have h := Sat_neg c96 h
            refine r_aload_n dX11_scan_99 0 rfl ?_
            refine r_ldc2 (v := 32) dX11_scan_100 kc_X11_197 ?_
            refine r_aload_n dX11_scan_103 0 rfl ?_
            obtain ⟨x104, e104, h⟩ := Sat_bind h
            refine r_getL fk_X11_193 rfl e104 dX11_scan_104 ?_
            refine r_lmul dX11_scan_107 ?_
            refine r_aload_n dX11_scan_108 0 rfl ?_
            refine r_iload_n dX11_scan_109 2 rfl ?_
            obtain ⟨x110, e110, h⟩ := Sat_bind h
            refine r_cV (t := 12) [.int s80.1] [.long ((32 : Int64) * x104), .ref a0_31] (m_X11_byteAt a0_31 s80.1 s80.2 e110) ck_X11_byteAt lk_X11_173 in_X11_byteAt se_X11_byteAt (kd_of e110) ⟨rfl, by decide, by decide⟩ rfl rfl (Nat.le_of_ble_eq_true rfl) ⟨by decide, by decide⟩ ⟨Nat.zero_le _, Nat.zero_le _⟩ dX11_scan_110 ?_
            refine r_i2l dX11_scan_113 ?_
            refine r_ladd dX11_scan_114 ?_
            refine r_ldc2 (v := 97) dX11_scan_115 kc_X11_199 ?_
            refine r_lsub dX11_scan_118 ?_
            refine r_lconst (v := 1) dX11_scan_119 (by decide) ?_
            refine r_ladd dX11_scan_120 ?_
            obtain ⟨μ121, e121, h⟩ := Sat_bind h
            refine r_putL fk_X11_193 rfl rfl e121 dX11_scan_121 ?_
            exact r_sub [0, 1, 2] rfl (J124 s80.1 μ121 h)
    · have h := Sat_pos c53 h
      refine r_aload_n dX11_scan_56 2 rfl ?_
      refine r_iconst (v := 4) dX11_scan_57 (by decide) ?_
      obtain ⟨μ58, e58, h⟩ := Sat_bind h
      refine r_putI fk_X11_186 rfl rfl e58 dX11_scan_58 ?_
      refine r_iload_n dX11_scan_61 3 rfl ?_
      refine r_istore_n (lv' := [(3, .int l1_31), (2, .int x38), (0, .ref a0_31), (1, .int l1_31)]) dX11_scan_62 rfl (by decide) rfl ?_
      refine r_goto 270 dX11_scan_63 (by decide) ?_
      exact r_sub [2, 0] rfl (J270 a0_31 l1_31 μ58 h)
  refine r_aload_n dX11_scan_0 0 rfl ?_
  obtain ⟨x1, e1, h⟩ := Sat_bind h
  refine r_getI fk_X11_177 rfl e1 dX11_scan_1 ?_
  refine r_istore_n (lv' := [(1, .int x1), (0, .ref a0)]) dX11_scan_4 rfl (by decide) rfl ?_
  refine r_sub (lv' := [(0, .ref a0), (1, .int x1)]) [1, 0] rfl ?_
  refine whl_K (s0 := (x1 : Int32)) (RR := fun (s5 : Int32) => Rn_X11_scan G (fun v μ' => v = none ∧ μ' = r) 5 [(0, .ref a0), (1, .int s5)] [] μ) ?_ (Sat_bindK h)
  intro s5 K5 hI5 hX5 h
  have J25 : ∀ (l1_25 : Int32), Sat (f_X11_scan_J25 a0 l1_25 μ) K5 → Rn_X11_scan G (fun v μ' => v = none ∧ μ' = r) 25 [(0, .ref a0), (1, .int l1_25)] [] μ := by
    intro l1_25 h
    obtain ⟨v25, e25, h⟩ := Sat_bind h
    refine r_iinc (j := 1) (v := v25) (lv' := [(1, .int v25), (0, .ref a0)]) dX11_scan_25 rfl (iinc_v e25 (by decide)) (by decide) rfl ?_
    refine r_goto 5 dX11_scan_28 (by decide) ?_
    exact r_sub [1, 0] rfl (hI5 _ (Sat_some h))
  refine r_aload_n dX11_scan_5 0 rfl ?_
  refine r_iload_n dX11_scan_6 1 rfl ?_
  obtain ⟨x7, e7, h⟩ := Sat_bind h
  refine r_cV (t := 12) [.int s5] [] (m_X11_byteAt a0 s5 μ e7) ck_X11_byteAt lk_X11_173 in_X11_byteAt se_X11_byteAt (kd_of e7) ⟨rfl, by decide, by decide⟩ rfl rfl (Nat.le_of_ble_eq_true rfl) ⟨by decide, by decide⟩ ⟨Nat.zero_le _, Nat.zero_le _⟩ dX11_scan_7 ?_
  refine r_bipush (v := 32) dX11_scan_10 (by decide) ?_
  refine r_icmp_eq 25 dX11_scan_12 (by decide) (fun c12 => ?_) (fun c12 => ?_)
  · have h := Sat_pos c12 h
    exact r_sub [0, 1] rfl (J25 s5 h)
  · have h := Sat_neg c12 h
    refine r_aload_n dX11_scan_15 0 rfl ?_
    refine r_iload_n dX11_scan_16 1 rfl ?_
    obtain ⟨x17, e17, h⟩ := Sat_bind h
    refine r_cV (t := 12) [.int s5] [] (m_X11_byteAt a0 s5 μ e17) ck_X11_byteAt lk_X11_173 in_X11_byteAt se_X11_byteAt (kd_of e17) ⟨rfl, by decide, by decide⟩ rfl rfl (Nat.le_of_ble_eq_true rfl) ⟨by decide, by decide⟩ ⟨Nat.zero_le _, Nat.zero_le _⟩ dX11_scan_17 ?_
    refine r_bipush (v := 10) dX11_scan_20 (by decide) ?_
    refine r_icmp_ne 31 dX11_scan_22 (by decide) (fun c22 => ?_) (fun c22 => ?_)
    · have h := Sat_neg c22 h
      have h := hX5 _ (Sat_some h)
      exact r_sub [0, 1] rfl (J31 a0 s5 μ h)
    · have h := Sat_pos c22 h
      exact r_sub [0, 1] rfl (J25 s5 h)
theorem dX11_takeTape_0 : decode cX11_takeTape 0 = .ok (.aload_n 0, 1) := by decide +kernel
theorem dX11_takeTape_1 : decode cX11_takeTape 1 = .ok (.aload_n 0, 1) := by decide +kernel
theorem dX11_takeTape_2 : decode cX11_takeTape 2 = .ok (.getfield 155, 3) := by decide +kernel
theorem dX11_takeTape_5 : decode cX11_takeTape 5 = .ok (.putfield 158, 3) := by decide +kernel
theorem dX11_takeTape_8 : decode cX11_takeTape 8 = .ok (.aload_n 0, 1) := by decide +kernel
theorem dX11_takeTape_9 : decode cX11_takeTape 9 = .ok (.iconst 0, 1) := by decide +kernel
theorem dX11_takeTape_10 : decode cX11_takeTape 10 = .ok (.putfield 155, 3) := by decide +kernel
theorem dX11_takeTape_13 : decode cX11_takeTape 13 = .ok (.aload_n 0, 1) := by decide +kernel
theorem dX11_takeTape_14 : decode cX11_takeTape 14 = .ok (.iconst 0, 1) := by decide +kernel
theorem dX11_takeTape_15 : decode cX11_takeTape 15 = .ok (.putfield 177, 3) := by decide +kernel
theorem dX11_takeTape_18 : decode cX11_takeTape 18 = .ok (.aload_n 0, 1) := by decide +kernel
theorem dX11_takeTape_19 : decode cX11_takeTape 19 = .ok (.invokevirtual 224, 3) := by decide +kernel
theorem dX11_takeTape_22 : decode cX11_takeTape 22 = .ok (.return_, 1) := by decide +kernel
noncomputable def f_X11_takeTape (a0 : Nat) (μ : Mm) : Option Mm :=
  if (mm_K μ a0).1 = 12 then (gf_I 12 1 a0 μ).bind fun x2 => (pf_I 12 2 a0 x2 μ).bind fun μ5 => (pf_I 12 1 a0 (0 : Int32) μ5).bind fun μ10 => (pf_I 12 6 a0 (0 : Int32) μ10).bind fun μ15 => (f_X11_scan a0 μ15).bind fun x19 => some x19 else none
abbrev Rn_X11_takeTape (G : Gv) (Q : Option Value → Mm → Prop) (pc : Nat) (lv : List (Nat × Value)) (st : List Value) (μ : Mm) : Prop := Rn G RX11 cX11_takeTape 1 none "takeTape" (rmd 6 0 0) (Zm G 0 0 Q) 0 0 pc lv st μ
set_option maxRecDepth 100000 in
set_option maxHeartbeats 4000000 in
theorem m_X11_takeTape {G : Gv} (a0 : Nat) (μ : Mm) {r : Mm} (hx : f_X11_takeTape a0 μ = some r) : Mt G yX11_takeTape cX11_takeTape 1 none 6 0 0 [.ref a0] μ (fun v μ' => v = none ∧ μ' = r) := by
  refine Mt.of (by decide) (Nat.le_of_ble_eq_true rfl) ?_
  show Rn_X11_takeTape G (fun v μ' => v = none ∧ μ' = r) 0 [(0, .ref a0)] [] μ
  obtain ⟨_, h⟩ := Sat_ifp (show Sat (f_X11_takeTape a0 μ) (fun x => x = r) from ⟨_, hx, rfl⟩)
  refine r_aload_n dX11_takeTape_0 0 rfl ?_
  refine r_aload_n dX11_takeTape_1 0 rfl ?_
  obtain ⟨x2, e2, h⟩ := Sat_bind h
  refine r_getI fk_X11_155 rfl e2 dX11_takeTape_2 ?_
  obtain ⟨μ5, e5, h⟩ := Sat_bind h
  refine r_putI fk_X11_158 rfl rfl e5 dX11_takeTape_5 ?_
  refine r_aload_n dX11_takeTape_8 0 rfl ?_
  refine r_iconst (v := 0) dX11_takeTape_9 (by decide) ?_
  obtain ⟨μ10, e10, h⟩ := Sat_bind h
  refine r_putI fk_X11_155 rfl rfl e10 dX11_takeTape_10 ?_
  refine r_aload_n dX11_takeTape_13 0 rfl ?_
  refine r_iconst (v := 0) dX11_takeTape_14 (by decide) ?_
  obtain ⟨μ15, e15, h⟩ := Sat_bind h
  refine r_putI fk_X11_177 rfl rfl e15 dX11_takeTape_15 ?_
  refine r_aload_n dX11_takeTape_18 0 rfl ?_
  obtain ⟨x19, e19, h⟩ := Sat_bind h
  refine r_cV (t := 12) [] [] (m_X11_scan a0 μ15 e19) ck_X11_scan lk_X11_224 in_X11_scan se_X11_scan (kd_of e19) ⟨rfl, by decide, by decide⟩ rfl rfl (Nat.le_of_ble_eq_true rfl) ⟨by decide, by decide⟩ ⟨Nat.zero_le _, Nat.zero_le _⟩ dX11_takeTape_19 ?_
  exact r_vreturn rfl (by rw [← Sat_eq h]; exact ⟨rfl, rfl⟩) dX11_takeTape_22
theorem dX11_readBook_0 : decode cX11_readBook 0 = .ok (.aload_n 0, 1) := by decide +kernel
theorem dX11_readBook_1 : decode cX11_readBook 1 = .ok (.invokevirtual 300, 3) := by decide +kernel
theorem dX11_readBook_4 : decode cX11_readBook 4 = .ok (.iconst 0, 1) := by decide +kernel
theorem dX11_readBook_5 : decode cX11_readBook 5 = .ok (.istore_n 1, 1) := by decide +kernel
theorem dX11_readBook_6 : decode cX11_readBook 6 = .ok (.aload_n 0, 1) := by decide +kernel
theorem dX11_readBook_7 : decode cX11_readBook 7 = .ok (.getfield 186, 3) := by decide +kernel
theorem dX11_readBook_10 : decode cX11_readBook 10 = .ok (.iconst 4, 1) := by decide +kernel
theorem dX11_readBook_11 : decode cX11_readBook 11 = .ok (.if_icmp .eq 123, 3) := by decide +kernel
theorem dX11_readBook_14 : decode cX11_readBook 14 = .ok (.iconst 0, 1) := by decide +kernel
theorem dX11_readBook_15 : decode cX11_readBook 15 = .ok (.istore_n 2, 1) := by decide +kernel
theorem dX11_readBook_16 : decode cX11_readBook 16 = .ok (.iload_n 2, 1) := by decide +kernel
theorem dX11_readBook_17 : decode cX11_readBook 17 = .ok (.iconst 3, 1) := by decide +kernel
theorem dX11_readBook_18 : decode cX11_readBook 18 = .ok (.if_icmp .ge 96, 3) := by decide +kernel
theorem dX11_readBook_21 : decode cX11_readBook 21 = .ok (.aload_n 0, 1) := by decide +kernel
theorem dX11_readBook_22 : decode cX11_readBook 22 = .ok (.getfield 186, 3) := by decide +kernel
theorem dX11_readBook_25 : decode cX11_readBook 25 = .ok (.iconst 2, 1) := by decide +kernel
theorem dX11_readBook_26 : decode cX11_readBook 26 = .ok (.if_icmp .ne 31, 3) := by decide +kernel
theorem dX11_readBook_29 : decode cX11_readBook 29 = .ok (.aload_n 0, 1) := by decide +kernel
theorem dX11_readBook_30 : decode cX11_readBook 30 = .ok (.getfield 208, 3) := by decide +kernel
theorem dX11_readBook_33 : decode cX11_readBook 33 = .ok (.iload_n 2, 1) := by decide +kernel
theorem dX11_readBook_34 : decode cX11_readBook 34 = .ok (.ifCond .ne 8, 3) := by decide +kernel
theorem dX11_readBook_37 : decode cX11_readBook 37 = .ok (.bipush 27, 2) := by decide +kernel
theorem dX11_readBook_39 : decode cX11_readBook 39 = .ok (.goto 15, 3) := by decide +kernel
theorem dX11_readBook_42 : decode cX11_readBook 42 = .ok (.iload_n 2, 1) := by decide +kernel
theorem dX11_readBook_43 : decode cX11_readBook 43 = .ok (.iconst 1, 1) := by decide +kernel
theorem dX11_readBook_44 : decode cX11_readBook 44 = .ok (.if_icmp .ne 8, 3) := by decide +kernel
theorem dX11_readBook_47 : decode cX11_readBook 47 = .ok (.bipush 7, 2) := by decide +kernel
theorem dX11_readBook_49 : decode cX11_readBook 49 = .ok (.goto 5, 3) := by decide +kernel
theorem dX11_readBook_52 : decode cX11_readBook 52 = .ok (.bipush 11, 2) := by decide +kernel
theorem dX11_readBook_54 : decode cX11_readBook 54 = .ok (.if_icmp .le 5, 3) := by decide +kernel
theorem dX11_readBook_57 : decode cX11_readBook 57 = .ok (.iconst (-1), 1) := by decide +kernel
theorem dX11_readBook_58 : decode cX11_readBook 58 = .ok (.ireturn, 1) := by decide +kernel
theorem dX11_readBook_59 : decode cX11_readBook 59 = .ok (.iload_n 2, 1) := by decide +kernel
theorem dX11_readBook_60 : decode cX11_readBook 60 = .ok (.ifCond .ne 16, 3) := by decide +kernel
theorem dX11_readBook_63 : decode cX11_readBook 63 = .ok (.aload_n 0, 1) := by decide +kernel
theorem dX11_readBook_64 : decode cX11_readBook 64 = .ok (.getfield 82, 3) := by decide +kernel
theorem dX11_readBook_67 : decode cX11_readBook 67 = .ok (.iload_n 1, 1) := by decide +kernel
theorem dX11_readBook_68 : decode cX11_readBook 68 = .ok (.aload_n 0, 1) := by decide +kernel
theorem dX11_readBook_69 : decode cX11_readBook 69 = .ok (.getfield 208, 3) := by decide +kernel
theorem dX11_readBook_72 : decode cX11_readBook 72 = .ok (.iastore, 1) := by decide +kernel
theorem dX11_readBook_73 : decode cX11_readBook 73 = .ok (.goto 31, 3) := by decide +kernel
theorem dX11_readBook_76 : decode cX11_readBook 76 = .ok (.iload_n 2, 1) := by decide +kernel
theorem dX11_readBook_77 : decode cX11_readBook 77 = .ok (.iconst 1, 1) := by decide +kernel
theorem dX11_readBook_78 : decode cX11_readBook 78 = .ok (.if_icmp .ne 16, 3) := by decide +kernel
theorem dX11_readBook_81 : decode cX11_readBook 81 = .ok (.aload_n 0, 1) := by decide +kernel
theorem dX11_readBook_82 : decode cX11_readBook 82 = .ok (.getfield 85, 3) := by decide +kernel
theorem dX11_readBook_85 : decode cX11_readBook 85 = .ok (.iload_n 1, 1) := by decide +kernel
theorem dX11_readBook_86 : decode cX11_readBook 86 = .ok (.aload_n 0, 1) := by decide +kernel
theorem dX11_readBook_87 : decode cX11_readBook 87 = .ok (.getfield 208, 3) := by decide +kernel
theorem dX11_readBook_90 : decode cX11_readBook 90 = .ok (.iastore, 1) := by decide +kernel
theorem dX11_readBook_91 : decode cX11_readBook 91 = .ok (.goto 13, 3) := by decide +kernel
theorem dX11_readBook_94 : decode cX11_readBook 94 = .ok (.aload_n 0, 1) := by decide +kernel
theorem dX11_readBook_95 : decode cX11_readBook 95 = .ok (.getfield 88, 3) := by decide +kernel
theorem dX11_readBook_98 : decode cX11_readBook 98 = .ok (.iload_n 1, 1) := by decide +kernel
theorem dX11_readBook_99 : decode cX11_readBook 99 = .ok (.aload_n 0, 1) := by decide +kernel
theorem dX11_readBook_100 : decode cX11_readBook 100 = .ok (.getfield 208, 3) := by decide +kernel
theorem dX11_readBook_103 : decode cX11_readBook 103 = .ok (.iastore, 1) := by decide +kernel
theorem dX11_readBook_104 : decode cX11_readBook 104 = .ok (.aload_n 0, 1) := by decide +kernel
theorem dX11_readBook_105 : decode cX11_readBook 105 = .ok (.invokevirtual 224, 3) := by decide +kernel
theorem dX11_readBook_108 : decode cX11_readBook 108 = .ok (.iinc 2 1, 3) := by decide +kernel
theorem dX11_readBook_111 : decode cX11_readBook 111 = .ok (.goto (-95), 3) := by decide +kernel
theorem dX11_readBook_114 : decode cX11_readBook 114 = .ok (.aload_n 0, 1) := by decide +kernel
theorem dX11_readBook_115 : decode cX11_readBook 115 = .ok (.getfield 186, 3) := by decide +kernel
theorem dX11_readBook_118 : decode cX11_readBook 118 = .ok (.iconst 3, 1) := by decide +kernel
theorem dX11_readBook_119 : decode cX11_readBook 119 = .ok (.if_icmp .eq 5, 3) := by decide +kernel
theorem dX11_readBook_122 : decode cX11_readBook 122 = .ok (.iconst (-1), 1) := by decide +kernel
theorem dX11_readBook_123 : decode cX11_readBook 123 = .ok (.ireturn, 1) := by decide +kernel
theorem dX11_readBook_124 : decode cX11_readBook 124 = .ok (.aload_n 0, 1) := by decide +kernel
theorem dX11_readBook_125 : decode cX11_readBook 125 = .ok (.invokevirtual 224, 3) := by decide +kernel
theorem dX11_readBook_128 : decode cX11_readBook 128 = .ok (.iinc 1 1, 3) := by decide +kernel
theorem dX11_readBook_131 : decode cX11_readBook 131 = .ok (.goto (-125), 3) := by decide +kernel
theorem dX11_readBook_134 : decode cX11_readBook 134 = .ok (.iload_n 1, 1) := by decide +kernel
theorem dX11_readBook_135 : decode cX11_readBook 135 = .ok (.ireturn, 1) := by decide +kernel
noncomputable def f_X11_readBook_J114 (a0 : Nat) (l1 : Int32) (μ : Mm) : Option ((Int32 × Mm) ⊕ ((Mm) ⊕ ((Mm) ⊕ (Int32 × Mm)))) :=
  (gf_I 12 3 a0 μ).bind fun x115 => if x115 = (3 : Int32) then (f_X11_scan a0 μ).bind fun x125 => (some (l1 + (1 : Int32))).bind fun v128 => some (.inl (v128, x125)) else some (.inr (.inr (.inl μ)))
noncomputable def f_X11_readBook_J104 (a0 : Nat) (l1 : Int32) (l2 : Int32) (μ : Mm) : Option ((Int32 × Mm) ⊕ ((Mm) ⊕ (Mm))) :=
  (f_X11_scan a0 μ).bind fun x105 => (some (l2 + (1 : Int32))).bind fun v108 => some (.inl (v108, x105))
noncomputable def f_X11_readBook_J54 (a0 : Nat) (l1 : Int32) (l2 : Int32) (k0 : Int32) (k1 : Int32) (μ : Mm) : Option ((Int32 × Mm) ⊕ ((Mm) ⊕ (Mm))) :=
  if k0 ≤ k1 then if l2 = 0 then (gf_P 12 43 a0 μ).bind fun x64 => (gf_I 12 7 a0 μ).bind fun x69 => (pa_I x64 l1 x69 μ).bind fun μ72 => f_X11_readBook_J104 a0 l1 l2 μ72 else if l2 = (1 : Int32) then (gf_P 12 44 a0 μ).bind fun x82 => (gf_I 12 7 a0 μ).bind fun x87 => (pa_I x82 l1 x87 μ).bind fun μ90 => f_X11_readBook_J104 a0 l1 l2 μ90 else (gf_P 12 45 a0 μ).bind fun x95 => (gf_I 12 7 a0 μ).bind fun x100 => (pa_I x95 l1 x100 μ).bind fun μ103 => f_X11_readBook_J104 a0 l1 l2 μ103 else some (.inr (.inl μ))
noncomputable def f_X11_readBook_L16 (a0 : Nat) (l1 : Int32) (s16 : Int32 × Mm) : Option ((Int32 × Mm) ⊕ ((Mm) ⊕ (Mm))) :=
  if (3 : Int32) ≤ s16.1 then some (.inr (.inr s16.2)) else (gf_I 12 3 a0 s16.2).bind fun x22 => if x22 = (2 : Int32) then (gf_I 12 7 a0 s16.2).bind fun x30 => if s16.1 = 0 then f_X11_readBook_J54 a0 l1 s16.1 x30 (27 : Int32) s16.2 else if s16.1 = (1 : Int32) then f_X11_readBook_J54 a0 l1 s16.1 x30 (7 : Int32) s16.2 else f_X11_readBook_J54 a0 l1 s16.1 x30 (11 : Int32) s16.2 else some (.inr (.inl s16.2))
noncomputable def f_X11_readBook_L6 (a0 : Nat) (s6 : Int32 × Mm) : Option ((Int32 × Mm) ⊕ ((Mm) ⊕ ((Mm) ⊕ (Int32 × Mm)))) :=
  (gf_I 12 3 a0 s6.2).bind fun x7 => if x7 = (4 : Int32) then some (.inr (.inr (.inr (s6.1, s6.2)))) else (whl (f_X11_readBook_L16 a0 s6.1) ((0 : Int32), s6.2)).bind (sm (fun b16 => some (.inr (.inl b16))) (fun b16 => f_X11_readBook_J114 a0 s6.1 b16))
noncomputable def f_X11_readBook (a0 : Nat) (μ : Mm) : Option (Int32 × Mm) :=
  if (mm_K μ a0).1 = 12 then (f_X11_takeTape a0 μ).bind fun x1 => (whl (f_X11_readBook_L6 a0) ((0 : Int32), x1)).bind (sm (fun b6 => some ((-1 : Int32), b6)) (sm (fun b6 => some ((-1 : Int32), b6)) (fun b6 => some (b6.1, b6.2)))) else none
abbrev Rn_X11_readBook (G : Gv) (Q : Option Value → Mm → Prop) (pc : Nat) (lv : List (Nat × Value)) (st : List Value) (μ : Mm) : Prop := Rn G RX11 cX11_readBook 3 (some .int) "readBook" (rmd 7 0 0) (Zm G 0 0 Q) 0 0 pc lv st μ
set_option maxRecDepth 100000 in
set_option maxHeartbeats 4000000 in
theorem m_X11_readBook {G : Gv} (a0 : Nat) (μ : Mm) {r : (Int32 × Mm)} (hx : f_X11_readBook a0 μ = some r) : Mt G yX11_readBook cX11_readBook 3 (some .int) 7 0 0 [.ref a0] μ (fun v μ' => v = some (.int r.1) ∧ μ' = r.2) := by
  refine Mt.of (by decide) (Nat.le_of_ble_eq_true rfl) ?_
  show Rn_X11_readBook G (fun v μ' => v = some (.int r.1) ∧ μ' = r.2) 0 [(0, .ref a0)] [] μ
  obtain ⟨_, h⟩ := Sat_ifp (show Sat (f_X11_readBook a0 μ) (fun x => x = r) from ⟨_, hx, rfl⟩)
  refine r_aload_n dX11_readBook_0 0 rfl ?_
  obtain ⟨x1, e1, h⟩ := Sat_bind h
  refine r_cV (t := 12) [] [] (m_X11_takeTape a0 μ e1) ck_X11_takeTape lk_X11_300 in_X11_takeTape se_X11_takeTape (kd_of e1) ⟨rfl, by decide, by decide⟩ rfl rfl (Nat.le_of_ble_eq_true rfl) ⟨by decide, by decide⟩ ⟨Nat.zero_le _, Nat.zero_le _⟩ dX11_readBook_1 ?_
  refine r_iconst (v := 0) dX11_readBook_4 (by decide) ?_
  refine r_istore_n (lv' := [(1, .int (0 : Int32)), (0, .ref a0)]) dX11_readBook_5 rfl (by decide) rfl ?_
  refine r_sub (lv' := [(0, .ref a0), (1, .int (0 : Int32))]) [1, 0] rfl ?_
  refine whl_K (s0 := (((0 : Int32), x1) : Int32 × Mm)) (RR := fun (s6 : Int32 × Mm) => Rn_X11_readBook G (fun v μ' => v = some (.int r.1) ∧ μ' = r.2) 6 [(0, .ref a0), (1, .int s6.1)] [] s6.2) ?_ (Sat_bindK h)
  intro s6 K6 hI6 hX6 h
  have J114 : ∀ (l1_114 : Int32) (μ_114 : Mm), Sat (f_X11_readBook_J114 a0 l1_114 μ_114) K6 → Rn_X11_readBook G (fun v μ' => v = some (.int r.1) ∧ μ' = r.2) 114 [(0, .ref a0), (1, .int l1_114)] [] μ_114 := by
    intro l1_114 μ_114 h
    refine r_aload_n dX11_readBook_114 0 rfl ?_
    obtain ⟨x115, e115, h⟩ := Sat_bind h
    refine r_getI fk_X11_186 rfl e115 dX11_readBook_115 ?_
    refine r_iconst (v := 3) dX11_readBook_118 (by decide) ?_
    refine r_icmp_eq 124 dX11_readBook_119 (by decide) (fun c119 => ?_) (fun c119 => ?_)
    · have h := Sat_pos c119 h
      refine r_aload_n dX11_readBook_124 0 rfl ?_
      obtain ⟨x125, e125, h⟩ := Sat_bind h
      refine r_cV (t := 12) [] [] (m_X11_scan a0 μ_114 e125) ck_X11_scan lk_X11_224 in_X11_scan se_X11_scan (kd_of e125) ⟨rfl, by decide, by decide⟩ rfl rfl (Nat.le_of_ble_eq_true rfl) ⟨by decide, by decide⟩ ⟨Nat.zero_le _, Nat.zero_le _⟩ dX11_readBook_125 ?_
      obtain ⟨v128, e128, h⟩ := Sat_bind h
      refine r_iinc (j := 1) (v := v128) (lv' := [(1, .int v128), (0, .ref a0)]) dX11_readBook_128 rfl (iinc_v e128 (by decide)) (by decide) rfl ?_
      refine r_goto 6 dX11_readBook_131 (by decide) ?_
      exact r_sub [1, 0] rfl (hI6 _ (Sat_some h))
    · have h := Sat_neg c119 h
      have h := hX6 _ (Sat_some h)
      refine r_iconst (v := -1) dX11_readBook_122 (by decide) ?_
      exact r_ireturn rfl (by rw [← Sat_eq h]; exact ⟨rfl, rfl⟩) dX11_readBook_123
  refine r_aload_n dX11_readBook_6 0 rfl ?_
  obtain ⟨x7, e7, h⟩ := Sat_bind h
  refine r_getI fk_X11_186 rfl e7 dX11_readBook_7 ?_
  refine r_iconst (v := 4) dX11_readBook_10 (by decide) ?_
  refine r_icmp_eq 134 dX11_readBook_11 (by decide) (fun c11 => ?_) (fun c11 => ?_)
  · have h := Sat_pos c11 h
    have h := hX6 _ (Sat_some h)
    refine r_iload_n dX11_readBook_134 1 rfl ?_
    exact r_ireturn rfl (by rw [← Sat_eq h]; exact ⟨rfl, rfl⟩) dX11_readBook_135
  · have h := Sat_neg c11 h
    refine r_iconst (v := 0) dX11_readBook_14 (by decide) ?_
    refine r_istore_n (lv' := [(2, .int (0 : Int32)), (0, .ref a0), (1, .int s6.1)]) dX11_readBook_15 rfl (by decide) rfl ?_
    refine r_sub (lv' := [(0, .ref a0), (1, .int s6.1), (2, .int (0 : Int32))]) [1, 2, 0] rfl ?_
    refine whl_K (s0 := (((0 : Int32), s6.2) : Int32 × Mm)) (RR := fun (s16 : Int32 × Mm) => Rn_X11_readBook G (fun v μ' => v = some (.int r.1) ∧ μ' = r.2) 16 [(0, .ref a0), (1, .int s6.1), (2, .int s16.1)] [] s16.2) ?_ (Sat_bindK h)
    intro s16 K16 hI16 hX16 h
    have J104 : ∀ (l2_104 : Int32) (μ_104 : Mm), Sat (f_X11_readBook_J104 a0 s6.1 l2_104 μ_104) K16 → Rn_X11_readBook G (fun v μ' => v = some (.int r.1) ∧ μ' = r.2) 104 [(0, .ref a0), (1, .int s6.1), (2, .int l2_104)] [] μ_104 := by
      intro l2_104 μ_104 h
      refine r_aload_n dX11_readBook_104 0 rfl ?_
      obtain ⟨x105, e105, h⟩ := Sat_bind h
      refine r_cV (t := 12) [] [] (m_X11_scan a0 μ_104 e105) ck_X11_scan lk_X11_224 in_X11_scan se_X11_scan (kd_of e105) ⟨rfl, by decide, by decide⟩ rfl rfl (Nat.le_of_ble_eq_true rfl) ⟨by decide, by decide⟩ ⟨Nat.zero_le _, Nat.zero_le _⟩ dX11_readBook_105 ?_
      obtain ⟨v108, e108, h⟩ := Sat_bind h
      refine r_iinc (j := 2) (v := v108) (lv' := [(2, .int v108), (0, .ref a0), (1, .int s6.1)]) dX11_readBook_108 rfl (iinc_v e108 (by decide)) (by decide) rfl ?_
      refine r_goto 16 dX11_readBook_111 (by decide) ?_
      exact r_sub [1, 2, 0] rfl (hI16 _ (Sat_some h))
    have J54 : ∀ (l2_54 : Int32) (k0_54 : Int32) (k1_54 : Int32) (μ_54 : Mm), Sat (f_X11_readBook_J54 a0 s6.1 l2_54 k0_54 k1_54 μ_54) K16 → Rn_X11_readBook G (fun v μ' => v = some (.int r.1) ∧ μ' = r.2) 54 [(0, .ref a0), (1, .int s6.1), (2, .int l2_54)] [.int k1_54, .int k0_54] μ_54 := by
      intro l2_54 k0_54 k1_54 μ_54 h
      refine r_icmp_le 59 dX11_readBook_54 (by decide) (fun c54 => ?_) (fun c54 => ?_)
      · have h := Sat_pos c54 h
        refine r_iload_n dX11_readBook_59 2 rfl ?_
        refine r_if_ne 76 dX11_readBook_60 (by decide) (fun c60 => ?_) (fun c60 => ?_)
        · have h := Sat_neg c60 h
          refine r_iload_n dX11_readBook_76 2 rfl ?_
          refine r_iconst (v := 1) dX11_readBook_77 (by decide) ?_
          refine r_icmp_ne 94 dX11_readBook_78 (by decide) (fun c78 => ?_) (fun c78 => ?_)
          · have h := Sat_neg c78 h
            refine r_aload_n dX11_readBook_94 0 rfl ?_
            obtain ⟨x95, e95, h⟩ := Sat_bind h
            refine r_getP fk_X11_88 rfl e95 dX11_readBook_95 ?_
            refine r_iload_n dX11_readBook_98 1 rfl ?_
            refine r_aload_n dX11_readBook_99 0 rfl ?_
            obtain ⟨x100, e100, h⟩ := Sat_bind h
            refine r_getI fk_X11_208 rfl e100 dX11_readBook_100 ?_
            obtain ⟨μ103, e103, h⟩ := Sat_bind h
            refine r_iastore e103 dX11_readBook_103 ?_
            exact r_sub [0, 1, 2] rfl (J104 l2_54 μ103 h)
          · have h := Sat_pos c78 h
            refine r_aload_n dX11_readBook_81 0 rfl ?_
            obtain ⟨x82, e82, h⟩ := Sat_bind h
            refine r_getP fk_X11_85 rfl e82 dX11_readBook_82 ?_
            refine r_iload_n dX11_readBook_85 1 rfl ?_
            refine r_aload_n dX11_readBook_86 0 rfl ?_
            obtain ⟨x87, e87, h⟩ := Sat_bind h
            refine r_getI fk_X11_208 rfl e87 dX11_readBook_87 ?_
            obtain ⟨μ90, e90, h⟩ := Sat_bind h
            refine r_iastore e90 dX11_readBook_90 ?_
            refine r_goto 104 dX11_readBook_91 (by decide) ?_
            exact r_sub [0, 1, 2] rfl (J104 l2_54 μ90 h)
        · have h := Sat_pos c60 h
          refine r_aload_n dX11_readBook_63 0 rfl ?_
          obtain ⟨x64, e64, h⟩ := Sat_bind h
          refine r_getP fk_X11_82 rfl e64 dX11_readBook_64 ?_
          refine r_iload_n dX11_readBook_67 1 rfl ?_
          refine r_aload_n dX11_readBook_68 0 rfl ?_
          obtain ⟨x69, e69, h⟩ := Sat_bind h
          refine r_getI fk_X11_208 rfl e69 dX11_readBook_69 ?_
          obtain ⟨μ72, e72, h⟩ := Sat_bind h
          refine r_iastore e72 dX11_readBook_72 ?_
          refine r_goto 104 dX11_readBook_73 (by decide) ?_
          exact r_sub [0, 1, 2] rfl (J104 l2_54 μ72 h)
      · have h := Sat_neg c54 h
        have h := hX16 _ (Sat_some h)
        have h := hX6 _ (Sat_some h)
        refine r_iconst (v := -1) dX11_readBook_57 (by decide) ?_
        exact r_ireturn rfl (by rw [← Sat_eq h]; exact ⟨rfl, rfl⟩) dX11_readBook_58
    refine r_iload_n dX11_readBook_16 2 rfl ?_
    refine r_iconst (v := 3) dX11_readBook_17 (by decide) ?_
    refine r_icmp_ge 114 dX11_readBook_18 (by decide) (fun c18 => ?_) (fun c18 => ?_)
    · have h := Sat_pos c18 h
      have h := hX16 _ (Sat_some h)
      exact r_sub [0, 1] rfl (J114 s6.1 s16.2 h)
    · have h := Sat_neg c18 h
      refine r_aload_n dX11_readBook_21 0 rfl ?_
      obtain ⟨x22, e22, h⟩ := Sat_bind h
      refine r_getI fk_X11_186 rfl e22 dX11_readBook_22 ?_
      refine r_iconst (v := 2) dX11_readBook_25 (by decide) ?_
      refine r_icmp_ne 57 dX11_readBook_26 (by decide) (fun c26 => ?_) (fun c26 => ?_)
      · have h := Sat_neg c26 h
        have h := hX16 _ (Sat_some h)
        have h := hX6 _ (Sat_some h)
        refine r_iconst (v := -1) dX11_readBook_57 (by decide) ?_
        exact r_ireturn rfl (by rw [← Sat_eq h]; exact ⟨rfl, rfl⟩) dX11_readBook_58
      · have h := Sat_pos c26 h
        refine r_aload_n dX11_readBook_29 0 rfl ?_
        obtain ⟨x30, e30, h⟩ := Sat_bind h
        refine r_getI fk_X11_208 rfl e30 dX11_readBook_30 ?_
        refine r_iload_n dX11_readBook_33 2 rfl ?_
        refine r_if_ne 42 dX11_readBook_34 (by decide) (fun c34 => ?_) (fun c34 => ?_)
        · have h := Sat_neg c34 h
          refine r_iload_n dX11_readBook_42 2 rfl ?_
          refine r_iconst (v := 1) dX11_readBook_43 (by decide) ?_
          refine r_icmp_ne 52 dX11_readBook_44 (by decide) (fun c44 => ?_) (fun c44 => ?_)
          · have h := Sat_neg c44 h
            refine r_bipush (v := 11) dX11_readBook_52 (by decide) ?_
            exact r_sub [0, 1, 2] rfl (J54 s16.1 x30 (11 : Int32) s16.2 h)
          · have h := Sat_pos c44 h
            refine r_bipush (v := 7) dX11_readBook_47 (by decide) ?_
            refine r_goto 54 dX11_readBook_49 (by decide) ?_
            exact r_sub [0, 1, 2] rfl (J54 s16.1 x30 (7 : Int32) s16.2 h)
        · have h := Sat_pos c34 h
          refine r_bipush (v := 27) dX11_readBook_37 (by decide) ?_
          refine r_goto 54 dX11_readBook_39 (by decide) ?_
          exact r_sub [0, 1, 2] rfl (J54 s16.1 x30 (27 : Int32) s16.2 h)
