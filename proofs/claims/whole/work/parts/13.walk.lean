theorem dX6_rewind_0 : decode cX6_rewind 0 = .ok (.aload_n 0, 1) := by decide +kernel
theorem dX6_rewind_1 : decode cX6_rewind 1 = .ok (.iconst 0, 1) := by decide +kernel
theorem dX6_rewind_2 : decode cX6_rewind 2 = .ok (.putfield 15, 3) := by decide +kernel
theorem dX6_rewind_5 : decode cX6_rewind 5 = .ok (.return_, 1) := by decide +kernel
noncomputable def f_X6_rewind (a0 : Nat) (μ : Mm) : Option Mm :=
  if (mm_K μ a0).1 = 7 then (pf_I 7 1 a0 (0 : Int32) μ).bind fun μ2 => some μ2 else none
abbrev Rn_X6_rewind (G : Gv) (Q : Option Value → Mm → Prop) (pc : Nat) (lv : List (Nat × Value)) (st : List Value) (μ : Mm) : Prop := Rn G RX6 cX6_rewind 1 none "rewind" (rmd 0 0 0) (Zm G 0 0 Q) 0 0 pc lv st μ
set_option maxRecDepth 100000 in
set_option maxHeartbeats 4000000 in
theorem m_X6_rewind {G : Gv} (a0 : Nat) (μ : Mm) {r : Mm} (hx : f_X6_rewind a0 μ = some r) : Mt G yX6_rewind cX6_rewind 1 none 0 0 0 [.ref a0] μ (fun v μ' => v = none ∧ μ' = r) := by
  refine Mt.of (by decide) (Nat.le_of_ble_eq_true rfl) ?_
  show Rn_X6_rewind G (fun v μ' => v = none ∧ μ' = r) 0 [(0, .ref a0)] [] μ
  obtain ⟨_, h⟩ := Sat_ifp (show Sat (f_X6_rewind a0 μ) (fun x => x = r) from ⟨_, hx, rfl⟩)
  refine r_aload_n dX6_rewind_0 0 rfl ?_
  refine r_iconst (v := 0) dX6_rewind_1 (by decide) ?_
  obtain ⟨μ2, e2, h⟩ := Sat_bind h
  refine r_putI fk_X6_15 rfl rfl e2 dX6_rewind_2 ?_
  exact r_vreturn rfl (by rw [← Sat_eq h]; exact ⟨rfl, rfl⟩) dX6_rewind_5
theorem dX10_judgedBook_0 : decode cX10_judgedBook 0 = .ok (.aload_n 0, 1) := by decide +kernel
theorem dX10_judgedBook_1 : decode cX10_judgedBook 1 = .ok (.getfield 84, 3) := by decide +kernel
theorem dX10_judgedBook_4 : decode cX10_judgedBook 4 = .ok (.aload_n 0, 1) := by decide +kernel
theorem dX10_judgedBook_5 : decode cX10_judgedBook 5 = .ok (.getfield 116, 3) := by decide +kernel
theorem dX10_judgedBook_8 : decode cX10_judgedBook 8 = .ok (.invokevirtual 220, 3) := by decide +kernel
theorem dX10_judgedBook_11 : decode cX10_judgedBook 11 = .ok (.aload_n 0, 1) := by decide +kernel
theorem dX10_judgedBook_12 : decode cX10_judgedBook 12 = .ok (.getfield 21, 3) := by decide +kernel
theorem dX10_judgedBook_15 : decode cX10_judgedBook 15 = .ok (.invokevirtual 248, 3) := by decide +kernel
theorem dX10_judgedBook_18 : decode cX10_judgedBook 18 = .ok (.iconst (-1), 1) := by decide +kernel
theorem dX10_judgedBook_19 : decode cX10_judgedBook 19 = .ok (.istore_n 1, 1) := by decide +kernel
theorem dX10_judgedBook_20 : decode cX10_judgedBook 20 = .ok (.iconst 0, 1) := by decide +kernel
theorem dX10_judgedBook_21 : decode cX10_judgedBook 21 = .ok (.istore_n 2, 1) := by decide +kernel
theorem dX10_judgedBook_22 : decode cX10_judgedBook 22 = .ok (.iload_n 2, 1) := by decide +kernel
theorem dX10_judgedBook_23 : decode cX10_judgedBook 23 = .ok (.sipush 900, 3) := by decide +kernel
theorem dX10_judgedBook_26 : decode cX10_judgedBook 26 = .ok (.if_icmp .ge 131, 3) := by decide +kernel
theorem dX10_judgedBook_29 : decode cX10_judgedBook 29 = .ok (.aload_n 0, 1) := by decide +kernel
theorem dX10_judgedBook_30 : decode cX10_judgedBook 30 = .ok (.getfield 21, 3) := by decide +kernel
theorem dX10_judgedBook_33 : decode cX10_judgedBook 33 = .ok (.invokevirtual 251, 3) := by decide +kernel
theorem dX10_judgedBook_36 : decode cX10_judgedBook 36 = .ok (.aload_n 0, 1) := by decide +kernel
theorem dX10_judgedBook_37 : decode cX10_judgedBook 37 = .ok (.getfield 21, 3) := by decide +kernel
theorem dX10_judgedBook_40 : decode cX10_judgedBook 40 = .ok (.getfield 254, 3) := by decide +kernel
theorem dX10_judgedBook_43 : decode cX10_judgedBook 43 = .ok (.ifCond .ne 16, 3) := by decide +kernel
theorem dX10_judgedBook_46 : decode cX10_judgedBook 46 = .ok (.iload_n 1, 1) := by decide +kernel
theorem dX10_judgedBook_47 : decode cX10_judgedBook 47 = .ok (.iconst (-1), 1) := by decide +kernel
theorem dX10_judgedBook_48 : decode cX10_judgedBook 48 = .ok (.if_icmp .ne 7, 3) := by decide +kernel
theorem dX10_judgedBook_51 : decode cX10_judgedBook 51 = .ok (.iload_n 2, 1) := by decide +kernel
theorem dX10_judgedBook_52 : decode cX10_judgedBook 52 = .ok (.goto 6, 3) := by decide +kernel
theorem dX10_judgedBook_55 : decode cX10_judgedBook 55 = .ok (.iconst (-1), 1) := by decide +kernel
theorem dX10_judgedBook_56 : decode cX10_judgedBook 56 = .ok (.iload_n 1, 1) := by decide +kernel
theorem dX10_judgedBook_57 : decode cX10_judgedBook 57 = .ok (.isub, 1) := by decide +kernel
theorem dX10_judgedBook_58 : decode cX10_judgedBook 58 = .ok (.ireturn, 1) := by decide +kernel
theorem dX10_judgedBook_59 : decode cX10_judgedBook 59 = .ok (.aload_n 0, 1) := by decide +kernel
theorem dX10_judgedBook_60 : decode cX10_judgedBook 60 = .ok (.bipush 27, 2) := by decide +kernel
theorem dX10_judgedBook_62 : decode cX10_judgedBook 62 = .ok (.invokevirtual 257, 3) := by decide +kernel
theorem dX10_judgedBook_65 : decode cX10_judgedBook 65 = .ok (.istore_n 3, 1) := by decide +kernel
theorem dX10_judgedBook_66 : decode cX10_judgedBook 66 = .ok (.aload_n 0, 1) := by decide +kernel
theorem dX10_judgedBook_67 : decode cX10_judgedBook 67 = .ok (.getfield 21, 3) := by decide +kernel
theorem dX10_judgedBook_70 : decode cX10_judgedBook 70 = .ok (.invokevirtual 251, 3) := by decide +kernel
theorem dX10_judgedBook_73 : decode cX10_judgedBook 73 = .ok (.aload_n 0, 1) := by decide +kernel
theorem dX10_judgedBook_74 : decode cX10_judgedBook 74 = .ok (.bipush 7, 2) := by decide +kernel
theorem dX10_judgedBook_76 : decode cX10_judgedBook 76 = .ok (.invokevirtual 257, 3) := by decide +kernel
theorem dX10_judgedBook_79 : decode cX10_judgedBook 79 = .ok (.istore 4, 2) := by decide +kernel
theorem dX10_judgedBook_81 : decode cX10_judgedBook 81 = .ok (.aload_n 0, 1) := by decide +kernel
theorem dX10_judgedBook_82 : decode cX10_judgedBook 82 = .ok (.getfield 21, 3) := by decide +kernel
theorem dX10_judgedBook_85 : decode cX10_judgedBook 85 = .ok (.invokevirtual 251, 3) := by decide +kernel
theorem dX10_judgedBook_88 : decode cX10_judgedBook 88 = .ok (.aload_n 0, 1) := by decide +kernel
theorem dX10_judgedBook_89 : decode cX10_judgedBook 89 = .ok (.bipush 11, 2) := by decide +kernel
theorem dX10_judgedBook_91 : decode cX10_judgedBook 91 = .ok (.invokevirtual 257, 3) := by decide +kernel
theorem dX10_judgedBook_94 : decode cX10_judgedBook 94 = .ok (.istore 5, 2) := by decide +kernel
theorem dX10_judgedBook_96 : decode cX10_judgedBook 96 = .ok (.aload_n 0, 1) := by decide +kernel
theorem dX10_judgedBook_97 : decode cX10_judgedBook 97 = .ok (.getfield 21, 3) := by decide +kernel
theorem dX10_judgedBook_100 : decode cX10_judgedBook 100 = .ok (.invokevirtual 251, 3) := by decide +kernel
theorem dX10_judgedBook_103 : decode cX10_judgedBook 103 = .ok (.iload_n 3, 1) := by decide +kernel
theorem dX10_judgedBook_104 : decode cX10_judgedBook 104 = .ok (.ifCond .lt 24, 3) := by decide +kernel
theorem dX10_judgedBook_107 : decode cX10_judgedBook 107 = .ok (.iload 4, 2) := by decide +kernel
theorem dX10_judgedBook_109 : decode cX10_judgedBook 109 = .ok (.ifCond .lt 19, 3) := by decide +kernel
theorem dX10_judgedBook_112 : decode cX10_judgedBook 112 = .ok (.iload 5, 2) := by decide +kernel
theorem dX10_judgedBook_114 : decode cX10_judgedBook 114 = .ok (.ifCond .lt 14, 3) := by decide +kernel
theorem dX10_judgedBook_117 : decode cX10_judgedBook 117 = .ok (.aload_n 0, 1) := by decide +kernel
theorem dX10_judgedBook_118 : decode cX10_judgedBook 118 = .ok (.getfield 21, 3) := by decide +kernel
theorem dX10_judgedBook_121 : decode cX10_judgedBook 121 = .ok (.getfield 254, 3) := by decide +kernel
theorem dX10_judgedBook_124 : decode cX10_judgedBook 124 = .ok (.iconst 3, 1) := by decide +kernel
theorem dX10_judgedBook_125 : decode cX10_judgedBook 125 = .ok (.if_icmp .eq 7, 3) := by decide +kernel
theorem dX10_judgedBook_128 : decode cX10_judgedBook 128 = .ok (.sipush (-1000), 3) := by decide +kernel
theorem dX10_judgedBook_131 : decode cX10_judgedBook 131 = .ok (.ireturn, 1) := by decide +kernel
theorem dX10_judgedBook_132 : decode cX10_judgedBook 132 = .ok (.iload_n 1, 1) := by decide +kernel
theorem dX10_judgedBook_133 : decode cX10_judgedBook 133 = .ok (.iconst (-1), 1) := by decide +kernel
theorem dX10_judgedBook_134 : decode cX10_judgedBook 134 = .ok (.if_icmp .ne 17, 3) := by decide +kernel
theorem dX10_judgedBook_137 : decode cX10_judgedBook 137 = .ok (.aload_n 0, 1) := by decide +kernel
theorem dX10_judgedBook_138 : decode cX10_judgedBook 138 = .ok (.iload_n 3, 1) := by decide +kernel
theorem dX10_judgedBook_139 : decode cX10_judgedBook 139 = .ok (.iload 4, 2) := by decide +kernel
theorem dX10_judgedBook_141 : decode cX10_judgedBook 141 = .ok (.iload 5, 2) := by decide +kernel
theorem dX10_judgedBook_143 : decode cX10_judgedBook 143 = .ok (.invokevirtual 260, 3) := by decide +kernel
theorem dX10_judgedBook_146 : decode cX10_judgedBook 146 = .ok (.ifCond .ne 5, 3) := by decide +kernel
theorem dX10_judgedBook_149 : decode cX10_judgedBook 149 = .ok (.iload_n 2, 1) := by decide +kernel
theorem dX10_judgedBook_150 : decode cX10_judgedBook 150 = .ok (.istore_n 1, 1) := by decide +kernel
theorem dX10_judgedBook_151 : decode cX10_judgedBook 151 = .ok (.iinc 2 1, 3) := by decide +kernel
theorem dX10_judgedBook_154 : decode cX10_judgedBook 154 = .ok (.goto (-132), 3) := by decide +kernel
theorem dX10_judgedBook_157 : decode cX10_judgedBook 157 = .ok (.sipush (-1000), 3) := by decide +kernel
theorem dX10_judgedBook_160 : decode cX10_judgedBook 160 = .ok (.ireturn, 1) := by decide +kernel
noncomputable def f_X10_judgedBook_J151 (a0 : Nat) (l1 : Int32) (l2 : Int32) (μ : Mm) : Option ((Int32 × Int32 × Mm) ⊕ ((Int32 × Int32 × Mm) ⊕ ((Mm) ⊕ (Mm)))) :=
  (some (l2 + (1 : Int32))).bind fun v151 => some (.inl (l1, v151, μ))
noncomputable def f_X10_judgedBook_J46 (l1 : Int32) (l2 : Int32) (μ : Mm) : Option (Int32 × Mm) :=
  if l1 = (-1 : Int32) then some (l2, μ) else some ((-1 : Int32) - l1, μ)
noncomputable def f_X10_judgedBook_L22 (a0 : Nat) (s22 : Int32 × Int32 × Mm) : Option ((Int32 × Int32 × Mm) ⊕ ((Int32 × Int32 × Mm) ⊕ ((Mm) ⊕ (Mm)))) :=
  if (900 : Int32) ≤ s22.2.1 then some (.inr (.inr (.inr s22.2.2))) else (gf_P 11 1 a0 s22.2.2).bind fun x30 => (f_X6_advance x30 s22.2.2).bind fun x33 => (gf_P 11 1 a0 x33).bind fun x37 => (gf_I 7 2 x37 x33).bind fun x40 => if x40 = 0 then some (.inr (.inl (s22.1, s22.2.1, x33))) else (f_X10_bookNumber a0 (27 : Int32) x33).bind fun x62 => (gf_P 11 1 a0 x33).bind fun x67 => (f_X6_advance x67 x33).bind fun x70 => (f_X10_bookNumber a0 (7 : Int32) x70).bind fun x76 => (gf_P 11 1 a0 x70).bind fun x82 => (f_X6_advance x82 x70).bind fun x85 => (f_X10_bookNumber a0 (11 : Int32) x85).bind fun x91 => (gf_P 11 1 a0 x85).bind fun x97 => (f_X6_advance x97 x85).bind fun x100 => if x62 < 0 then some (.inr (.inr (.inl x100))) else if x76 < 0 then some (.inr (.inr (.inl x100))) else if x91 < 0 then some (.inr (.inr (.inl x100))) else (gf_P 11 1 a0 x100).bind fun x118 => (gf_I 7 2 x118 x100).bind fun x121 => if x121 = (3 : Int32) then if s22.1 = (-1 : Int32) then (f_X10_isActRight a0 x62 x76 x91 x100).bind fun x143 => if x143.1 = 0 then f_X10_judgedBook_J151 a0 s22.2.1 s22.2.1 x143.2 else f_X10_judgedBook_J151 a0 s22.1 s22.2.1 x143.2 else f_X10_judgedBook_J151 a0 s22.1 s22.2.1 x100 else some (.inr (.inr (.inl x100)))
noncomputable def f_X10_judgedBook (a0 : Nat) (μ : Mm) : Option (Int32 × Mm) :=
  if (mm_K μ a0).1 = 11 then (gf_P 11 3 a0 μ).bind fun x1 => (gf_I 11 15 a0 μ).bind fun x5 => (f_X4_setTurning x1 x5 μ).bind fun x8 => (gf_P 11 1 a0 x8).bind fun x12 => (f_X6_rewind x12 x8).bind fun x15 => (whl (f_X10_judgedBook_L22 a0) ((-1 : Int32), (0 : Int32), x15)).bind (sm (fun b22 => f_X10_judgedBook_J46 b22.1 b22.2.1 b22.2.2) (sm (fun b22 => some ((-1000 : Int32), b22)) (fun b22 => some ((-1000 : Int32), b22)))) else none
abbrev Rn_X10_judgedBook (G : Gv) (Q : Option Value → Mm → Prop) (pc : Nat) (lv : List (Nat × Value)) (st : List Value) (μ : Mm) : Prop := Rn G RX10 cX10_judgedBook 6 (some .int) "judgedBook" (rmd 4 0 0) (Zm G 0 0 Q) 0 0 pc lv st μ
set_option maxRecDepth 100000 in
set_option maxHeartbeats 4000000 in
theorem m_X10_judgedBook {G : Gv} (a0 : Nat) (μ : Mm) {r : (Int32 × Mm)} (hx : f_X10_judgedBook a0 μ = some r) : Mt G yX10_judgedBook cX10_judgedBook 6 (some .int) 4 0 0 [.ref a0] μ (fun v μ' => v = some (.int r.1) ∧ μ' = r.2) := by
  refine Mt.of (by decide) (Nat.le_of_ble_eq_true rfl) ?_
  show Rn_X10_judgedBook G (fun v μ' => v = some (.int r.1) ∧ μ' = r.2) 0 [(0, .ref a0)] [] μ
  obtain ⟨_, h⟩ := Sat_ifp (show Sat (f_X10_judgedBook a0 μ) (fun x => x = r) from ⟨_, hx, rfl⟩)
  have J46 : ∀ (l1_46 : Int32) (l2_46 : Int32) (μ_46 : Mm), Sat (f_X10_judgedBook_J46 l1_46 l2_46 μ_46) (fun x => x = r) → Rn_X10_judgedBook G (fun v μ' => v = some (.int r.1) ∧ μ' = r.2) 46 [(1, .int l1_46), (2, .int l2_46)] [] μ_46 := by
    intro l1_46 l2_46 μ_46 h
    refine r_iload_n dX10_judgedBook_46 0 rfl ?_
    refine r_iconst (v := -1) dX10_judgedBook_47 (by decide) ?_
    refine r_icmp_ne 55 dX10_judgedBook_48 (by decide) (fun c48 => ?_) (fun c48 => ?_)
    · have h := Sat_neg c48 h
      refine r_iconst (v := -1) dX10_judgedBook_55 (by decide) ?_
      refine r_iload_n dX10_judgedBook_56 0 rfl ?_
      refine r_isub dX10_judgedBook_57 ?_
      exact r_ireturn rfl (by rw [← Sat_eq h]; exact ⟨rfl, rfl⟩) dX10_judgedBook_58
    · have h := Sat_pos c48 h
      refine r_iload_n dX10_judgedBook_51 1 rfl ?_
      refine r_goto 58 dX10_judgedBook_52 (by decide) ?_
      exact r_ireturn rfl (by rw [← Sat_eq h]; exact ⟨rfl, rfl⟩) dX10_judgedBook_58
  refine r_aload_n dX10_judgedBook_0 0 rfl ?_
  obtain ⟨x1, e1, h⟩ := Sat_bind h
  refine r_getP fk_X10_84 rfl e1 dX10_judgedBook_1 ?_
  refine r_aload_n dX10_judgedBook_4 0 rfl ?_
  obtain ⟨x5, e5, h⟩ := Sat_bind h
  refine r_getI fk_X10_116 rfl e5 dX10_judgedBook_5 ?_
  obtain ⟨x8, e8, h⟩ := Sat_bind h
  refine r_cV (t := 5) [.int x5] [] (m_X4_setTurning x1 x5 μ e8) ck_X4_setTurning lk_X10_220 in_X4_setTurning se_X4_setTurning (kd_of e8) ⟨rfl, by decide, by decide⟩ rfl rfl (Nat.le_of_ble_eq_true rfl) ⟨by decide, by decide⟩ ⟨Nat.zero_le _, Nat.zero_le _⟩ dX10_judgedBook_8 ?_
  refine r_aload_n dX10_judgedBook_11 0 rfl ?_
  obtain ⟨x12, e12, h⟩ := Sat_bind h
  refine r_getP fk_X10_21 rfl e12 dX10_judgedBook_12 ?_
  obtain ⟨x15, e15, h⟩ := Sat_bind h
  refine r_cV (t := 7) [] [] (m_X6_rewind x12 x8 e15) ck_X6_rewind lk_X10_248 in_X6_rewind se_X6_rewind (kd_of e15) ⟨rfl, by decide, by decide⟩ rfl rfl (Nat.le_of_ble_eq_true rfl) ⟨by decide, by decide⟩ ⟨Nat.zero_le _, Nat.zero_le _⟩ dX10_judgedBook_15 ?_
  refine r_iconst (v := -1) dX10_judgedBook_18 (by decide) ?_
  refine r_istore_n (lv' := [(1, .int (-1 : Int32)), (0, .ref a0)]) dX10_judgedBook_19 rfl (by decide) rfl ?_
  refine r_iconst (v := 0) dX10_judgedBook_20 (by decide) ?_
  refine r_istore_n (lv' := [(2, .int (0 : Int32)), (1, .int (-1 : Int32)), (0, .ref a0)]) dX10_judgedBook_21 rfl (by decide) rfl ?_
  refine r_sub (lv' := [(0, .ref a0), (1, .int (-1 : Int32)), (2, .int (0 : Int32))]) [2, 1, 0] rfl ?_
  refine whl_K (s0 := (((-1 : Int32), (0 : Int32), x15) : Int32 × Int32 × Mm)) (RR := fun (s22 : Int32 × Int32 × Mm) => Rn_X10_judgedBook G (fun v μ' => v = some (.int r.1) ∧ μ' = r.2) 22 [(0, .ref a0), (1, .int s22.1), (2, .int s22.2.1)] [] s22.2.2) ?_ (Sat_bindK h)
  intro s22 K22 hI22 hX22 h
  have J151 : ∀ (l1_151 : Int32) (l2_151 : Int32) (μ_151 : Mm), Sat (f_X10_judgedBook_J151 a0 l1_151 l2_151 μ_151) K22 → Rn_X10_judgedBook G (fun v μ' => v = some (.int r.1) ∧ μ' = r.2) 151 [(0, .ref a0), (1, .int l1_151), (2, .int l2_151)] [] μ_151 := by
    intro l1_151 l2_151 μ_151 h
    obtain ⟨v151, e151, h⟩ := Sat_bind h
    refine r_iinc (j := 2) (v := v151) (lv' := [(2, .int v151), (0, .ref a0), (1, .int l1_151)]) dX10_judgedBook_151 rfl (iinc_v e151 (by decide)) (by decide) rfl ?_
    refine r_goto 22 dX10_judgedBook_154 (by decide) ?_
    exact r_sub [1, 2, 0] rfl (hI22 _ (Sat_some h))
  refine r_iload_n dX10_judgedBook_22 2 rfl ?_
  refine r_sipush (v := 900) dX10_judgedBook_23 (by decide) ?_
  refine r_icmp_ge 157 dX10_judgedBook_26 (by decide) (fun c26 => ?_) (fun c26 => ?_)
  · have h := Sat_pos c26 h
    have h := hX22 _ (Sat_some h)
    refine r_sipush (v := -1000) dX10_judgedBook_157 (by decide) ?_
    exact r_ireturn rfl (by rw [← Sat_eq h]; exact ⟨rfl, rfl⟩) dX10_judgedBook_160
  · have h := Sat_neg c26 h
    refine r_aload_n dX10_judgedBook_29 0 rfl ?_
    obtain ⟨x30, e30, h⟩ := Sat_bind h
    refine r_getP fk_X10_21 rfl e30 dX10_judgedBook_30 ?_
    obtain ⟨x33, e33, h⟩ := Sat_bind h
    refine r_cV (t := 7) [] [] (m_X6_advance x30 s22.2.2 e33) ck_X6_advance lk_X10_251 in_X6_advance se_X6_advance (kd_of e33) ⟨rfl, by decide, by decide⟩ rfl rfl (Nat.le_of_ble_eq_true rfl) ⟨by decide, by decide⟩ ⟨Nat.zero_le _, Nat.zero_le _⟩ dX10_judgedBook_33 ?_
    refine r_aload_n dX10_judgedBook_36 0 rfl ?_
    obtain ⟨x37, e37, h⟩ := Sat_bind h
    refine r_getP fk_X10_21 rfl e37 dX10_judgedBook_37 ?_
    obtain ⟨x40, e40, h⟩ := Sat_bind h
    refine r_getI fk_X10_254 rfl e40 dX10_judgedBook_40 ?_
    refine r_if_ne 59 dX10_judgedBook_43 (by decide) (fun c43 => ?_) (fun c43 => ?_)
    · have h := Sat_neg c43 h
      refine r_aload_n dX10_judgedBook_59 0 rfl ?_
      refine r_bipush (v := 27) dX10_judgedBook_60 (by decide) ?_
      obtain ⟨x62, e62, h⟩ := Sat_bind h
      refine r_cV (t := 11) [.int (27 : Int32)] [] (m_X10_bookNumber a0 (27 : Int32) x33 e62) ck_X10_bookNumber lk_X10_257 in_X10_bookNumber se_X10_bookNumber (kd_of e62) ⟨rfl, by decide, by decide⟩ rfl rfl (Nat.le_of_ble_eq_true rfl) ⟨by decide, by decide⟩ ⟨Nat.zero_le _, Nat.zero_le _⟩ dX10_judgedBook_62 ?_
      refine r_istore_n (lv' := [(3, .int x62), (0, .ref a0), (1, .int s22.1), (2, .int s22.2.1)]) dX10_judgedBook_65 rfl (by decide) rfl ?_
      refine r_aload_n dX10_judgedBook_66 1 rfl ?_
      obtain ⟨x67, e67, h⟩ := Sat_bind h
      refine r_getP fk_X10_21 rfl e67 dX10_judgedBook_67 ?_
      obtain ⟨x70, e70, h⟩ := Sat_bind h
      refine r_cV (t := 7) [] [] (m_X6_advance x67 x33 e70) ck_X6_advance lk_X10_251 in_X6_advance se_X6_advance (kd_of e70) ⟨rfl, by decide, by decide⟩ rfl rfl (Nat.le_of_ble_eq_true rfl) ⟨by decide, by decide⟩ ⟨Nat.zero_le _, Nat.zero_le _⟩ dX10_judgedBook_70 ?_
      refine r_aload_n dX10_judgedBook_73 1 rfl ?_
      refine r_bipush (v := 7) dX10_judgedBook_74 (by decide) ?_
      obtain ⟨x76, e76, h⟩ := Sat_bind h
      refine r_cV (t := 11) [.int (7 : Int32)] [] (m_X10_bookNumber a0 (7 : Int32) x70 e76) ck_X10_bookNumber lk_X10_257 in_X10_bookNumber se_X10_bookNumber (kd_of e76) ⟨rfl, by decide, by decide⟩ rfl rfl (Nat.le_of_ble_eq_true rfl) ⟨by decide, by decide⟩ ⟨Nat.zero_le _, Nat.zero_le _⟩ dX10_judgedBook_76 ?_
      refine r_istore (lv' := [(4, .int x76), (3, .int x62), (0, .ref a0), (1, .int s22.1), (2, .int s22.2.1)]) dX10_judgedBook_79 (by decide) rfl ?_
      refine r_aload_n dX10_judgedBook_81 2 rfl ?_
      obtain ⟨x82, e82, h⟩ := Sat_bind h
      refine r_getP fk_X10_21 rfl e82 dX10_judgedBook_82 ?_
      obtain ⟨x85, e85, h⟩ := Sat_bind h
      refine r_cV (t := 7) [] [] (m_X6_advance x82 x70 e85) ck_X6_advance lk_X10_251 in_X6_advance se_X6_advance (kd_of e85) ⟨rfl, by decide, by decide⟩ rfl rfl (Nat.le_of_ble_eq_true rfl) ⟨by decide, by decide⟩ ⟨Nat.zero_le _, Nat.zero_le _⟩ dX10_judgedBook_85 ?_
      refine r_aload_n dX10_judgedBook_88 2 rfl ?_
      refine r_bipush (v := 11) dX10_judgedBook_89 (by decide) ?_
      obtain ⟨x91, e91, h⟩ := Sat_bind h
      refine r_cV (t := 11) [.int (11 : Int32)] [] (m_X10_bookNumber a0 (11 : Int32) x85 e91) ck_X10_bookNumber lk_X10_257 in_X10_bookNumber se_X10_bookNumber (kd_of e91) ⟨rfl, by decide, by decide⟩ rfl rfl (Nat.le_of_ble_eq_true rfl) ⟨by decide, by decide⟩ ⟨Nat.zero_le _, Nat.zero_le _⟩ dX10_judgedBook_91 ?_
      refine r_istore (lv' := [(5, .int x91), (4, .int x76), (3, .int x62), (0, .ref a0), (1, .int s22.1), (2, .int s22.2.1)]) dX10_judgedBook_94 (by decide) rfl ?_
      refine r_aload_n dX10_judgedBook_96 3 rfl ?_
      obtain ⟨x97, e97, h⟩ := Sat_bind h
      refine r_getP fk_X10_21 rfl e97 dX10_judgedBook_97 ?_
      obtain ⟨x100, e100, h⟩ := Sat_bind h
      refine r_cV (t := 7) [] [] (m_X6_advance x97 x85 e100) ck_X6_advance lk_X10_251 in_X6_advance se_X6_advance (kd_of e100) ⟨rfl, by decide, by decide⟩ rfl rfl (Nat.le_of_ble_eq_true rfl) ⟨by decide, by decide⟩ ⟨Nat.zero_le _, Nat.zero_le _⟩ dX10_judgedBook_100 ?_
      refine r_iload_n dX10_judgedBook_103 2 rfl ?_
      refine r_if_lt 128 dX10_judgedBook_104 (by decide) (fun c104 => ?_) (fun c104 => ?_)
      · have h := Sat_pos c104 h
        have h := hX22 _ (Sat_some h)
        refine r_sipush (v := -1000) dX10_judgedBook_128 (by decide) ?_
        exact r_ireturn rfl (by rw [← Sat_eq h]; exact ⟨rfl, rfl⟩) dX10_judgedBook_131
      · have h := Sat_neg c104 h
        refine r_iload dX10_judgedBook_107 1 rfl ?_
        refine r_if_lt 128 dX10_judgedBook_109 (by decide) (fun c109 => ?_) (fun c109 => ?_)
        · have h := Sat_pos c109 h
          have h := hX22 _ (Sat_some h)
          refine r_sipush (v := -1000) dX10_judgedBook_128 (by decide) ?_
          exact r_ireturn rfl (by rw [← Sat_eq h]; exact ⟨rfl, rfl⟩) dX10_judgedBook_131
        · have h := Sat_neg c109 h
          refine r_iload dX10_judgedBook_112 0 rfl ?_
          refine r_if_lt 128 dX10_judgedBook_114 (by decide) (fun c114 => ?_) (fun c114 => ?_)
          · have h := Sat_pos c114 h
            have h := hX22 _ (Sat_some h)
            refine r_sipush (v := -1000) dX10_judgedBook_128 (by decide) ?_
            exact r_ireturn rfl (by rw [← Sat_eq h]; exact ⟨rfl, rfl⟩) dX10_judgedBook_131
          · have h := Sat_neg c114 h
            refine r_aload_n dX10_judgedBook_117 3 rfl ?_
            obtain ⟨x118, e118, h⟩ := Sat_bind h
            refine r_getP fk_X10_21 rfl e118 dX10_judgedBook_118 ?_
            obtain ⟨x121, e121, h⟩ := Sat_bind h
            refine r_getI fk_X10_254 rfl e121 dX10_judgedBook_121 ?_
            refine r_iconst (v := 3) dX10_judgedBook_124 (by decide) ?_
            refine r_icmp_eq 132 dX10_judgedBook_125 (by decide) (fun c125 => ?_) (fun c125 => ?_)
            · have h := Sat_pos c125 h
              refine r_iload_n dX10_judgedBook_132 4 rfl ?_
              refine r_iconst (v := -1) dX10_judgedBook_133 (by decide) ?_
              refine r_icmp_ne 151 dX10_judgedBook_134 (by decide) (fun c134 => ?_) (fun c134 => ?_)
              · have h := Sat_neg c134 h
                exact r_sub [3, 4, 5] rfl (J151 s22.1 s22.2.1 x100 h)
              · have h := Sat_pos c134 h
                refine r_aload_n dX10_judgedBook_137 3 rfl ?_
                refine r_iload_n dX10_judgedBook_138 2 rfl ?_
                refine r_iload dX10_judgedBook_139 1 rfl ?_
                refine r_iload dX10_judgedBook_141 0 rfl ?_
                obtain ⟨x143, e143, h⟩ := Sat_bind h
                refine r_cV (t := 11) [.int x62, .int x76, .int x91] [] (m_X10_isActRight a0 x62 x76 x91 x100 e143) ck_X10_isActRight lk_X10_260 in_X10_isActRight se_X10_isActRight (kd_of e143) ⟨rfl, by decide, by decide⟩ rfl rfl (Nat.le_of_ble_eq_true rfl) ⟨by decide, by decide⟩ ⟨Nat.zero_le _, Nat.zero_le _⟩ dX10_judgedBook_143 ?_
                refine r_if_ne 151 dX10_judgedBook_146 (by decide) (fun c146 => ?_) (fun c146 => ?_)
                · have h := Sat_neg c146 h
                  exact r_sub [3, 4, 5] rfl (J151 s22.1 s22.2.1 x143.2 h)
                · have h := Sat_pos c146 h
                  refine r_iload_n dX10_judgedBook_149 5 rfl ?_
                  refine r_istore_n (lv' := [(1, .int s22.2.1), (5, .int x91), (4, .int x76), (3, .int x62), (0, .ref a0), (2, .int s22.2.1)]) dX10_judgedBook_150 rfl (by decide) rfl ?_
                  exact r_sub [4, 0, 5] rfl (J151 s22.2.1 s22.2.1 x143.2 h)
            · have h := Sat_neg c125 h
              have h := hX22 _ (Sat_some h)
              refine r_sipush (v := -1000) dX10_judgedBook_128 (by decide) ?_
              exact r_ireturn rfl (by rw [← Sat_eq h]; exact ⟨rfl, rfl⟩) dX10_judgedBook_131
    · have h := Sat_pos c43 h
      have h := hX22 _ (Sat_some h)
      exact r_sub [1, 2] rfl (J46 s22.1 s22.2.1 x33 h)
theorem dX10_judge_0 : decode cX10_judge 0 = .ok (.aload_n 0, 1) := by decide +kernel
theorem dX10_judge_1 : decode cX10_judge 1 = .ok (.invokevirtual 245, 3) := by decide +kernel
theorem dX10_judge_4 : decode cX10_judge 4 = .ok (.istore_n 1, 1) := by decide +kernel
theorem dX10_judge_5 : decode cX10_judge 5 = .ok (.aload_n 0, 1) := by decide +kernel
theorem dX10_judge_6 : decode cX10_judge 6 = .ok (.getfield 10, 3) := by decide +kernel
theorem dX10_judge_9 : decode cX10_judge 9 = .ok (.iconst 0, 1) := by decide +kernel
theorem dX10_judge_10 : decode cX10_judge 10 = .ok (.putfield 137, 3) := by decide +kernel
theorem dX10_judge_13 : decode cX10_judge 13 = .ok (.iload_n 1, 1) := by decide +kernel
theorem dX10_judge_14 : decode cX10_judge 14 = .ok (.ireturn, 1) := by decide +kernel
noncomputable def f_X10_judge (a0 : Nat) (μ : Mm) : Option (Int32 × Mm) :=
  if (mm_K μ a0).1 = 11 then (f_X10_judgedBook a0 μ).bind fun x1 => (gf_P 11 0 a0 x1.2).bind fun x6 => (pf_I 6 1 x6 (0 : Int32) x1.2).bind fun μ10 => some (x1.1, μ10) else none
abbrev Rn_X10_judge (G : Gv) (Q : Option Value → Mm → Prop) (pc : Nat) (lv : List (Nat × Value)) (st : List Value) (μ : Mm) : Prop := Rn G RX10 cX10_judge 2 (some .int) "judge" (rmd 5 0 0) (Zm G 0 0 Q) 0 0 pc lv st μ
set_option maxRecDepth 100000 in
set_option maxHeartbeats 4000000 in
theorem m_X10_judge {G : Gv} (a0 : Nat) (μ : Mm) {r : (Int32 × Mm)} (hx : f_X10_judge a0 μ = some r) : Mt G yX10_judge cX10_judge 2 (some .int) 5 0 0 [.ref a0] μ (fun v μ' => v = some (.int r.1) ∧ μ' = r.2) := by
  refine Mt.of (by decide) (Nat.le_of_ble_eq_true rfl) ?_
  show Rn_X10_judge G (fun v μ' => v = some (.int r.1) ∧ μ' = r.2) 0 [(0, .ref a0)] [] μ
  obtain ⟨_, h⟩ := Sat_ifp (show Sat (f_X10_judge a0 μ) (fun x => x = r) from ⟨_, hx, rfl⟩)
  refine r_aload_n dX10_judge_0 0 rfl ?_
  obtain ⟨x1, e1, h⟩ := Sat_bind h
  refine r_cV (t := 11) [] [] (m_X10_judgedBook a0 μ e1) ck_X10_judgedBook lk_X10_245 in_X10_judgedBook se_X10_judgedBook (kd_of e1) ⟨rfl, by decide, by decide⟩ rfl rfl (Nat.le_of_ble_eq_true rfl) ⟨by decide, by decide⟩ ⟨Nat.zero_le _, Nat.zero_le _⟩ dX10_judge_1 ?_
  refine r_istore_n (lv' := [(1, .int x1.1), (0, .ref a0)]) dX10_judge_4 rfl (by decide) rfl ?_
  refine r_aload_n dX10_judge_5 1 rfl ?_
  obtain ⟨x6, e6, h⟩ := Sat_bind h
  refine r_getP fk_X10_10 rfl e6 dX10_judge_6 ?_
  refine r_iconst (v := 0) dX10_judge_9 (by decide) ?_
  obtain ⟨μ10, e10, h⟩ := Sat_bind h
  refine r_putI fk_X10_137 rfl rfl e10 dX10_judge_10 ?_
  refine r_iload_n dX10_judge_13 0 rfl ?_
  exact r_ireturn rfl (by rw [← Sat_eq h]; exact ⟨rfl, rfl⟩) dX10_judge_14
theorem dX3_copyFrom_0 : decode cX3_copyFrom 0 = .ok (.aload_n 0, 1) := by decide +kernel
theorem dX3_copyFrom_1 : decode cX3_copyFrom 1 = .ok (.aload_n 1, 1) := by decide +kernel
theorem dX3_copyFrom_2 : decode cX3_copyFrom 2 = .ok (.getfield 15, 3) := by decide +kernel
theorem dX3_copyFrom_5 : decode cX3_copyFrom 5 = .ok (.putfield 15, 3) := by decide +kernel
theorem dX3_copyFrom_8 : decode cX3_copyFrom 8 = .ok (.aload_n 0, 1) := by decide +kernel
theorem dX3_copyFrom_9 : decode cX3_copyFrom 9 = .ok (.aload_n 1, 1) := by decide +kernel
theorem dX3_copyFrom_10 : decode cX3_copyFrom 10 = .ok (.getfield 19, 3) := by decide +kernel
theorem dX3_copyFrom_13 : decode cX3_copyFrom 13 = .ok (.putfield 19, 3) := by decide +kernel
theorem dX3_copyFrom_16 : decode cX3_copyFrom 16 = .ok (.aload_n 0, 1) := by decide +kernel
theorem dX3_copyFrom_17 : decode cX3_copyFrom 17 = .ok (.aload_n 1, 1) := by decide +kernel
theorem dX3_copyFrom_18 : decode cX3_copyFrom 18 = .ok (.getfield 23, 3) := by decide +kernel
theorem dX3_copyFrom_21 : decode cX3_copyFrom 21 = .ok (.putfield 23, 3) := by decide +kernel
theorem dX3_copyFrom_24 : decode cX3_copyFrom 24 = .ok (.aload_n 0, 1) := by decide +kernel
theorem dX3_copyFrom_25 : decode cX3_copyFrom 25 = .ok (.aload_n 1, 1) := by decide +kernel
theorem dX3_copyFrom_26 : decode cX3_copyFrom 26 = .ok (.getfield 26, 3) := by decide +kernel
theorem dX3_copyFrom_29 : decode cX3_copyFrom 29 = .ok (.putfield 26, 3) := by decide +kernel
theorem dX3_copyFrom_32 : decode cX3_copyFrom 32 = .ok (.aload_n 1, 1) := by decide +kernel
theorem dX3_copyFrom_33 : decode cX3_copyFrom 33 = .ok (.getfield 9, 3) := by decide +kernel
theorem dX3_copyFrom_36 : decode cX3_copyFrom 36 = .ok (.iconst 0, 1) := by decide +kernel
theorem dX3_copyFrom_37 : decode cX3_copyFrom 37 = .ok (.aload_n 0, 1) := by decide +kernel
theorem dX3_copyFrom_38 : decode cX3_copyFrom 38 = .ok (.getfield 9, 3) := by decide +kernel
theorem dX3_copyFrom_41 : decode cX3_copyFrom 41 = .ok (.iconst 0, 1) := by decide +kernel
theorem dX3_copyFrom_42 : decode cX3_copyFrom 42 = .ok (.bipush 12, 2) := by decide +kernel
theorem dX3_copyFrom_44 : decode cX3_copyFrom 44 = .ok (.invokestatic 35, 3) := by decide +kernel
theorem dX3_copyFrom_47 : decode cX3_copyFrom 47 = .ok (.return_, 1) := by decide +kernel
noncomputable def f_X3_copyFrom (a0 : Nat) (l1 : Nat) (μ : Mm) : Option Mm :=
  if (mm_K μ a0).1 = 4 then (gf_I 4 1 l1 μ).bind fun x2 => (pf_Z 4 1 a0 x2 μ).bind fun μ5 => (gf_I 4 2 l1 μ5).bind fun x10 => (pf_I 4 2 a0 x10 μ5).bind fun μ13 => (gf_I 4 3 l1 μ13).bind fun x18 => (pf_I 4 3 a0 x18 μ13).bind fun μ21 => (gf_I 4 4 l1 μ21).bind fun x26 => (pf_I 4 4 a0 x26 μ21).bind fun μ29 => (gf_P 4 0 l1 μ29).bind fun x33 => (gf_P 4 0 a0 μ29).bind fun x38 => (cp_I x33 (0 : Int32) x38 (0 : Int32) (12 : Int32) μ29).bind fun μ44 => some μ44 else none
abbrev Rn_X3_copyFrom (G : Gv) (Q : Option Value → Mm → Prop) (pc : Nat) (lv : List (Nat × Value)) (st : List Value) (μ : Mm) : Prop := Rn G RX3 cX3_copyFrom 2 none "copyFrom" (rmd 1 0 0) (Zm G 0 0 Q) 0 0 pc lv st μ
set_option maxRecDepth 100000 in
set_option maxHeartbeats 4000000 in
theorem m_X3_copyFrom {G : Gv} (a0 : Nat) (l1 : Nat) (μ : Mm) {r : Mm} (hx : f_X3_copyFrom a0 l1 μ = some r) : Mt G yX3_copyFrom cX3_copyFrom 2 none 1 0 0 [.ref a0, .ref l1] μ (fun v μ' => v = none ∧ μ' = r) := by
  refine Mt.of (by decide) (Nat.le_of_ble_eq_true rfl) ?_
  show Rn_X3_copyFrom G (fun v μ' => v = none ∧ μ' = r) 0 [(0, .ref a0), (1, .ref l1)] [] μ
  obtain ⟨_, h⟩ := Sat_ifp (show Sat (f_X3_copyFrom a0 l1 μ) (fun x => x = r) from ⟨_, hx, rfl⟩)
  refine r_aload_n dX3_copyFrom_0 0 rfl ?_
  refine r_aload_n dX3_copyFrom_1 1 rfl ?_
  obtain ⟨x2, e2, h⟩ := Sat_bind h
  refine r_getI fk_X3_15 rfl e2 dX3_copyFrom_2 ?_
  obtain ⟨μ5, e5, h⟩ := Sat_bind h
  refine r_putZ fk_X3_15 rfl rfl e5 dX3_copyFrom_5 ?_
  refine r_aload_n dX3_copyFrom_8 0 rfl ?_
  refine r_aload_n dX3_copyFrom_9 1 rfl ?_
  obtain ⟨x10, e10, h⟩ := Sat_bind h
  refine r_getI fk_X3_19 rfl e10 dX3_copyFrom_10 ?_
  obtain ⟨μ13, e13, h⟩ := Sat_bind h
  refine r_putI fk_X3_19 rfl rfl e13 dX3_copyFrom_13 ?_
  refine r_aload_n dX3_copyFrom_16 0 rfl ?_
  refine r_aload_n dX3_copyFrom_17 1 rfl ?_
  obtain ⟨x18, e18, h⟩ := Sat_bind h
  refine r_getI fk_X3_23 rfl e18 dX3_copyFrom_18 ?_
  obtain ⟨μ21, e21, h⟩ := Sat_bind h
  refine r_putI fk_X3_23 rfl rfl e21 dX3_copyFrom_21 ?_
  refine r_aload_n dX3_copyFrom_24 0 rfl ?_
  refine r_aload_n dX3_copyFrom_25 1 rfl ?_
  obtain ⟨x26, e26, h⟩ := Sat_bind h
  refine r_getI fk_X3_26 rfl e26 dX3_copyFrom_26 ?_
  obtain ⟨μ29, e29, h⟩ := Sat_bind h
  refine r_putI fk_X3_26 rfl rfl e29 dX3_copyFrom_29 ?_
  refine r_aload_n dX3_copyFrom_32 1 rfl ?_
  obtain ⟨x33, e33, h⟩ := Sat_bind h
  refine r_getP fk_X3_9 rfl e33 dX3_copyFrom_33 ?_
  refine r_iconst (v := 0) dX3_copyFrom_36 (by decide) ?_
  refine r_aload_n dX3_copyFrom_37 0 rfl ?_
  obtain ⟨x38, e38, h⟩ := Sat_bind h
  refine r_getP fk_X3_9 rfl e38 dX3_copyFrom_38 ?_
  refine r_iconst (v := 0) dX3_copyFrom_41 (by decide) ?_
  refine r_bipush (v := 12) dX3_copyFrom_42 (by decide) ?_
  obtain ⟨μ44, e44, h⟩ := Sat_bind h
  refine r_copyI e44 cp_X3_35 cp_na cp_st cp_ii (Nat.le_of_ble_eq_true rfl) ⟨by decide, by decide⟩ dX3_copyFrom_44 ?_
  exact r_vreturn rfl (by rw [← Sat_eq h]; exact ⟨rfl, rfl⟩) dX3_copyFrom_47
theorem dX10_keep_0 : decode cX10_keep 0 = .ok (.iload_n 1, 1) := by decide +kernel
theorem dX10_keep_1 : decode cX10_keep 1 = .ok (.ifCond .lt 12, 3) := by decide +kernel
theorem dX10_keep_4 : decode cX10_keep 4 = .ok (.iload_n 1, 1) := by decide +kernel
theorem dX10_keep_5 : decode cX10_keep 5 = .ok (.aload_n 0, 1) := by decide +kernel
theorem dX10_keep_6 : decode cX10_keep 6 = .ok (.getfield 39, 3) := by decide +kernel
theorem dX10_keep_9 : decode cX10_keep 9 = .ok (.arraylength, 1) := by decide +kernel
theorem dX10_keep_10 : decode cX10_keep 10 = .ok (.if_icmp .lt 6, 3) := by decide +kernel
theorem dX10_keep_13 : decode cX10_keep 13 = .ok (.bipush (-2), 2) := by decide +kernel
theorem dX10_keep_15 : decode cX10_keep 15 = .ok (.ireturn, 1) := by decide +kernel
theorem dX10_keep_16 : decode cX10_keep 16 = .ok (.aload_n 0, 1) := by decide +kernel
theorem dX10_keep_17 : decode cX10_keep 17 = .ok (.getfield 35, 3) := by decide +kernel
theorem dX10_keep_20 : decode cX10_keep 20 = .ok (.getfield 125, 3) := by decide +kernel
theorem dX10_keep_23 : decode cX10_keep 23 = .ok (.ifCond .ne 6, 3) := by decide +kernel
theorem dX10_keep_26 : decode cX10_keep 26 = .ok (.bipush (-4), 2) := by decide +kernel
theorem dX10_keep_28 : decode cX10_keep 28 = .ok (.ireturn, 1) := by decide +kernel
theorem dX10_keep_29 : decode cX10_keep 29 = .ok (.aload_n 0, 1) := by decide +kernel
theorem dX10_keep_30 : decode cX10_keep 30 = .ok (.getfield 39, 3) := by decide +kernel
theorem dX10_keep_33 : decode cX10_keep 33 = .ok (.iload_n 1, 1) := by decide +kernel
theorem dX10_keep_34 : decode cX10_keep 34 = .ok (.aaload, 1) := by decide +kernel
theorem dX10_keep_35 : decode cX10_keep 35 = .ok (.aload_n 0, 1) := by decide +kernel
theorem dX10_keep_36 : decode cX10_keep 36 = .ok (.getfield 35, 3) := by decide +kernel
theorem dX10_keep_39 : decode cX10_keep 39 = .ok (.invokevirtual 431, 3) := by decide +kernel
theorem dX10_keep_42 : decode cX10_keep 42 = .ok (.aload_n 0, 1) := by decide +kernel
theorem dX10_keep_43 : decode cX10_keep 43 = .ok (.getfield 35, 3) := by decide +kernel
theorem dX10_keep_46 : decode cX10_keep 46 = .ok (.getfield 422, 3) := by decide +kernel
theorem dX10_keep_49 : decode cX10_keep 49 = .ok (.ireturn, 1) := by decide +kernel
noncomputable def f_X10_keep (a0 : Nat) (l1 : Int32) (μ : Mm) : Option (Int32 × Mm) :=
  if (mm_K μ a0).1 = 11 then if l1 < 0 then some ((-2 : Int32), μ) else (gf_P 11 7 a0 μ).bind fun x6 => (ga_len x6 μ).bind fun x9 => if l1 < x9 then (gf_P 11 6 a0 μ).bind fun x17 => (gf_I 4 1 x17 μ).bind fun x20 => if x20 = 0 then some ((-4 : Int32), μ) else (gf_P 11 7 a0 μ).bind fun x30 => (ga_P 24 x30 l1 μ).bind fun x34 => (gf_P 11 6 a0 μ).bind fun x36 => (f_X3_copyFrom x34 x36 μ).bind fun x39 => (gf_P 11 6 a0 x39).bind fun x43 => (gf_I 4 4 x43 x39).bind fun x46 => some (x46, x39) else some ((-2 : Int32), μ) else none
abbrev Rn_X10_keep (G : Gv) (Q : Option Value → Mm → Prop) (pc : Nat) (lv : List (Nat × Value)) (st : List Value) (μ : Mm) : Prop := Rn G RX10 cX10_keep 2 (some .int) "keep" (rmd 2 0 0) (Zm G 0 0 Q) 0 0 pc lv st μ
set_option maxRecDepth 100000 in
set_option maxHeartbeats 4000000 in
theorem m_X10_keep {G : Gv} (a0 : Nat) (l1 : Int32) (μ : Mm) {r : (Int32 × Mm)} (hx : f_X10_keep a0 l1 μ = some r) : Mt G yX10_keep cX10_keep 2 (some .int) 2 0 0 [.ref a0, .int l1] μ (fun v μ' => v = some (.int r.1) ∧ μ' = r.2) := by
  refine Mt.of (by decide) (Nat.le_of_ble_eq_true rfl) ?_
  show Rn_X10_keep G (fun v μ' => v = some (.int r.1) ∧ μ' = r.2) 0 [(0, .ref a0), (1, .int l1)] [] μ
  obtain ⟨_, h⟩ := Sat_ifp (show Sat (f_X10_keep a0 l1 μ) (fun x => x = r) from ⟨_, hx, rfl⟩)
  refine r_iload_n dX10_keep_0 1 rfl ?_
  refine r_if_lt 13 dX10_keep_1 (by decide) (fun c1 => ?_) (fun c1 => ?_)
  · have h := Sat_pos c1 h
    refine r_bipush (v := -2) dX10_keep_13 (by decide) ?_
    exact r_ireturn rfl (by rw [← Sat_eq h]; exact ⟨rfl, rfl⟩) dX10_keep_15
  · have h := Sat_neg c1 h
    refine r_iload_n dX10_keep_4 1 rfl ?_
    refine r_aload_n dX10_keep_5 0 rfl ?_
    obtain ⟨x6, e6, h⟩ := Sat_bind h
    refine r_getP fk_X10_39 rfl e6 dX10_keep_6 ?_
    obtain ⟨x9, e9, h⟩ := Sat_bind h
    refine r_len e9 dX10_keep_9 ?_
    refine r_icmp_lt 16 dX10_keep_10 (by decide) (fun c10 => ?_) (fun c10 => ?_)
    · have h := Sat_pos c10 h
      refine r_aload_n dX10_keep_16 0 rfl ?_
      obtain ⟨x17, e17, h⟩ := Sat_bind h
      refine r_getP fk_X10_35 rfl e17 dX10_keep_17 ?_
      obtain ⟨x20, e20, h⟩ := Sat_bind h
      refine r_getI fk_X10_125 rfl e20 dX10_keep_20 ?_
      refine r_if_ne 29 dX10_keep_23 (by decide) (fun c23 => ?_) (fun c23 => ?_)
      · have h := Sat_neg c23 h
        refine r_aload_n dX10_keep_29 0 rfl ?_
        obtain ⟨x30, e30, h⟩ := Sat_bind h
        refine r_getP fk_X10_39 rfl e30 dX10_keep_30 ?_
        refine r_iload_n dX10_keep_33 1 rfl ?_
        obtain ⟨x34, e34, h⟩ := Sat_bind h
        refine r_aaload (Or.inl rfl) e34 dX10_keep_34 ?_
        refine r_aload_n dX10_keep_35 0 rfl ?_
        obtain ⟨x36, e36, h⟩ := Sat_bind h
        refine r_getP fk_X10_35 rfl e36 dX10_keep_36 ?_
        obtain ⟨x39, e39, h⟩ := Sat_bind h
        refine r_cV (t := 4) [.ref x36] [] (m_X3_copyFrom x34 x36 μ e39) ck_X3_copyFrom lk_X10_431 in_X3_copyFrom se_X3_copyFrom (kd_of e39) ⟨rfl, by decide, by decide⟩ rfl rfl (Nat.le_of_ble_eq_true rfl) ⟨by decide, by decide⟩ ⟨Nat.zero_le _, Nat.zero_le _⟩ dX10_keep_39 ?_
        refine r_aload_n dX10_keep_42 0 rfl ?_
        obtain ⟨x43, e43, h⟩ := Sat_bind h
        refine r_getP fk_X10_35 rfl e43 dX10_keep_43 ?_
        obtain ⟨x46, e46, h⟩ := Sat_bind h
        refine r_getI fk_X10_422 rfl e46 dX10_keep_46 ?_
        exact r_ireturn rfl (by rw [← Sat_eq h]; exact ⟨rfl, rfl⟩) dX10_keep_49
      · have h := Sat_pos c23 h
        refine r_bipush (v := -4) dX10_keep_26 (by decide) ?_
        exact r_ireturn rfl (by rw [← Sat_eq h]; exact ⟨rfl, rfl⟩) dX10_keep_28
    · have h := Sat_neg c10 h
      refine r_bipush (v := -2) dX10_keep_13 (by decide) ?_
      exact r_ireturn rfl (by rw [← Sat_eq h]; exact ⟨rfl, rfl⟩) dX10_keep_15
theorem dX10_kept_0 : decode cX10_kept 0 = .ok (.aload_n 0, 1) := by decide +kernel
theorem dX10_kept_1 : decode cX10_kept 1 = .ok (.getfield 63, 3) := by decide +kernel
theorem dX10_kept_4 : decode cX10_kept 4 = .ok (.iload_n 1, 1) := by decide +kernel
theorem dX10_kept_5 : decode cX10_kept 5 = .ok (.invokevirtual 178, 3) := by decide +kernel
theorem dX10_kept_8 : decode cX10_kept 8 = .ok (.ifCond .eq 21, 3) := by decide +kernel
theorem dX10_kept_11 : decode cX10_kept 11 = .ok (.aload_n 0, 1) := by decide +kernel
theorem dX10_kept_12 : decode cX10_kept 12 = .ok (.getfield 63, 3) := by decide +kernel
theorem dX10_kept_15 : decode cX10_kept 15 = .ok (.iload_n 2, 1) := by decide +kernel
theorem dX10_kept_16 : decode cX10_kept 16 = .ok (.invokevirtual 188, 3) := by decide +kernel
theorem dX10_kept_19 : decode cX10_kept 19 = .ok (.ifCond .eq 10, 3) := by decide +kernel
theorem dX10_kept_22 : decode cX10_kept 22 = .ok (.iload_n 3, 1) := by decide +kernel
theorem dX10_kept_23 : decode cX10_kept 23 = .ok (.invokestatic 214, 3) := by decide +kernel
theorem dX10_kept_26 : decode cX10_kept 26 = .ok (.ifCond .ne 6, 3) := by decide +kernel
theorem dX10_kept_29 : decode cX10_kept 29 = .ok (.bipush (-2), 2) := by decide +kernel
theorem dX10_kept_31 : decode cX10_kept 31 = .ok (.ireturn, 1) := by decide +kernel
theorem dX10_kept_32 : decode cX10_kept 32 = .ok (.aload_n 0, 1) := by decide +kernel
theorem dX10_kept_33 : decode cX10_kept 33 = .ok (.getfield 84, 3) := by decide +kernel
theorem dX10_kept_36 : decode cX10_kept 36 = .ok (.aload_n 0, 1) := by decide +kernel
theorem dX10_kept_37 : decode cX10_kept 37 = .ok (.getfield 116, 3) := by decide +kernel
theorem dX10_kept_40 : decode cX10_kept 40 = .ok (.invokevirtual 220, 3) := by decide +kernel
theorem dX10_kept_43 : decode cX10_kept 43 = .ok (.iconst (-1), 1) := by decide +kernel
theorem dX10_kept_44 : decode cX10_kept 44 = .ok (.istore 4, 2) := by decide +kernel
theorem dX10_kept_46 : decode cX10_kept 46 = .ok (.bipush 9, 2) := by decide +kernel
theorem dX10_kept_48 : decode cX10_kept 48 = .ok (.istore 5, 2) := by decide +kernel
theorem dX10_kept_50 : decode cX10_kept 50 = .ok (.iconst 0, 1) := by decide +kernel
theorem dX10_kept_51 : decode cX10_kept 51 = .ok (.istore 6, 2) := by decide +kernel
theorem dX10_kept_53 : decode cX10_kept 53 = .ok (.iload 6, 2) := by decide +kernel
theorem dX10_kept_55 : decode cX10_kept 55 = .ok (.iconst 1, 1) := by decide +kernel
theorem dX10_kept_56 : decode cX10_kept 56 = .ok (.aload_n 0, 1) := by decide +kernel
theorem dX10_kept_57 : decode cX10_kept 57 = .ok (.getfield 63, 3) := by decide +kernel
theorem dX10_kept_60 : decode cX10_kept 60 = .ok (.getfield 153, 3) := by decide +kernel
theorem dX10_kept_63 : decode cX10_kept 63 = .ok (.ishl, 1) := by decide +kernel
theorem dX10_kept_64 : decode cX10_kept 64 = .ok (.if_icmp .ge 42, 3) := by decide +kernel
theorem dX10_kept_67 : decode cX10_kept 67 = .ok (.iload 6, 2) := by decide +kernel
theorem dX10_kept_69 : decode cX10_kept 69 = .ok (.invokestatic 333, 3) := by decide +kernel
theorem dX10_kept_72 : decode cX10_kept 72 = .ok (.iload 5, 2) := by decide +kernel
theorem dX10_kept_74 : decode cX10_kept 74 = .ok (.if_icmp .ge 26, 3) := by decide +kernel
theorem dX10_kept_77 : decode cX10_kept 77 = .ok (.aload_n 0, 1) := by decide +kernel
theorem dX10_kept_78 : decode cX10_kept 78 = .ok (.iload 6, 2) := by decide +kernel
theorem dX10_kept_80 : decode cX10_kept 80 = .ok (.iload_n 1, 1) := by decide +kernel
theorem dX10_kept_81 : decode cX10_kept 81 = .ok (.iload_n 2, 1) := by decide +kernel
theorem dX10_kept_82 : decode cX10_kept 82 = .ok (.iload_n 3, 1) := by decide +kernel
theorem dX10_kept_83 : decode cX10_kept 83 = .ok (.invokevirtual 379, 3) := by decide +kernel
theorem dX10_kept_86 : decode cX10_kept 86 = .ok (.ifCond .eq 14, 3) := by decide +kernel
theorem dX10_kept_89 : decode cX10_kept 89 = .ok (.iload 6, 2) := by decide +kernel
theorem dX10_kept_91 : decode cX10_kept 91 = .ok (.invokestatic 333, 3) := by decide +kernel
theorem dX10_kept_94 : decode cX10_kept 94 = .ok (.istore 5, 2) := by decide +kernel
theorem dX10_kept_96 : decode cX10_kept 96 = .ok (.iload 6, 2) := by decide +kernel
theorem dX10_kept_98 : decode cX10_kept 98 = .ok (.istore 4, 2) := by decide +kernel
theorem dX10_kept_100 : decode cX10_kept 100 = .ok (.iinc 6 1, 3) := by decide +kernel
theorem dX10_kept_103 : decode cX10_kept 103 = .ok (.goto (-50), 3) := by decide +kernel
theorem dX10_kept_106 : decode cX10_kept 106 = .ok (.iload 4, 2) := by decide +kernel
theorem dX10_kept_108 : decode cX10_kept 108 = .ok (.ireturn, 1) := by decide +kernel
noncomputable def f_X10_kept_J100 (a0 : Nat) (l1 : Int32) (l2 : Int32) (l3 : Int32) (l4 : Int32) (l5 : Int32) (l6 : Int32) (μ : Mm) : Option ((Int32 × Int32 × Int32 × Mm) ⊕ (Int32 × Mm)) :=
  (some (l6 + (1 : Int32))).bind fun v100 => some (.inl (l4, l5, v100, μ))
noncomputable def f_X10_kept_L53 (a0 : Nat) (l1 : Int32) (l2 : Int32) (l3 : Int32) (s53 : Int32 × Int32 × Int32 × Mm) : Option ((Int32 × Int32 × Int32 × Mm) ⊕ (Int32 × Mm)) :=
  (gf_P 11 13 a0 s53.2.2.2).bind fun x57 => (gf_I 8 9 x57 s53.2.2.2).bind fun x60 => if ((1 : Int32) <<< (x60 &&& 31)) ≤ s53.2.2.1 then some (.inr (s53.1, s53.2.2.2)) else (f_J6_bitCount_0f7a4 s53.2.2.1 s53.2.2.2).bind fun x69 => if s53.2.1 ≤ x69 then f_X10_kept_J100 a0 l1 l2 l3 s53.1 s53.2.1 s53.2.2.1 s53.2.2.2 else (f_X10_isKeptBy a0 s53.2.2.1 l1 l2 l3 s53.2.2.2).bind fun x83 => if x83.1 = 0 then f_X10_kept_J100 a0 l1 l2 l3 s53.1 s53.2.1 s53.2.2.1 x83.2 else (f_J6_bitCount_0f7a4 s53.2.2.1 x83.2).bind fun x91 => f_X10_kept_J100 a0 l1 l2 l3 s53.2.2.1 x91 s53.2.2.1 x83.2
noncomputable def f_X10_kept (a0 : Nat) (l1 : Int32) (l2 : Int32) (l3 : Int32) (μ : Mm) : Option (Int32 × Mm) :=
  if (mm_K μ a0).1 = 11 then (gf_P 11 13 a0 μ).bind fun x1 => (f_X7_isPerson x1 l1 μ).bind fun x5 => if x5 = 0 then some ((-2 : Int32), μ) else (gf_P 11 13 a0 μ).bind fun x12 => (f_X7_isFact x12 l2 μ).bind fun x16 => if x16 = 0 then some ((-2 : Int32), μ) else (f_X10_isDay l3 μ).bind fun x23 => if x23 = 0 then some ((-2 : Int32), μ) else (gf_P 11 3 a0 μ).bind fun x33 => (gf_I 11 15 a0 μ).bind fun x37 => (f_X4_setTurning x33 x37 μ).bind fun x40 => (whl (f_X10_kept_L53 a0 l1 l2 l3) ((-1 : Int32), (9 : Int32), (0 : Int32), x40)).bind (fun b53 => some (b53.1, b53.2)) else none
abbrev Rn_X10_kept (G : Gv) (Q : Option Value → Mm → Prop) (pc : Nat) (lv : List (Nat × Value)) (st : List Value) (μ : Mm) : Prop := Rn G RX10 cX10_kept 7 (some .int) "kept" (rmd 5 0 0) (Zm G 0 0 Q) 0 0 pc lv st μ
set_option maxRecDepth 100000 in
set_option maxHeartbeats 4000000 in
theorem m_X10_kept {G : Gv} (a0 : Nat) (l1 : Int32) (l2 : Int32) (l3 : Int32) (μ : Mm) {r : (Int32 × Mm)} (hx : f_X10_kept a0 l1 l2 l3 μ = some r) : Mt G yX10_kept cX10_kept 7 (some .int) 5 0 0 [.ref a0, .int l1, .int l2, .int l3] μ (fun v μ' => v = some (.int r.1) ∧ μ' = r.2) := by
  refine Mt.of (by decide) (Nat.le_of_ble_eq_true rfl) ?_
  show Rn_X10_kept G (fun v μ' => v = some (.int r.1) ∧ μ' = r.2) 0 [(0, .ref a0), (1, .int l1), (2, .int l2), (3, .int l3)] [] μ
  obtain ⟨_, h⟩ := Sat_ifp (show Sat (f_X10_kept a0 l1 l2 l3 μ) (fun x => x = r) from ⟨_, hx, rfl⟩)
  refine r_aload_n dX10_kept_0 0 rfl ?_
  obtain ⟨x1, e1, h⟩ := Sat_bind h
  refine r_getP fk_X10_63 rfl e1 dX10_kept_1 ?_
  refine r_iload_n dX10_kept_4 1 rfl ?_
  obtain ⟨x5, e5, h⟩ := Sat_bind h
  refine r_cV (t := 8) [.int l1] [] (m_X7_isPerson x1 l1 μ e5) ck_X7_isPerson lk_X10_178 in_X7_isPerson se_X7_isPerson (kd_of e5) ⟨rfl, by decide, by decide⟩ rfl rfl (Nat.le_of_ble_eq_true rfl) ⟨by decide, by decide⟩ ⟨Nat.zero_le _, Nat.zero_le _⟩ dX10_kept_5 ?_
  refine r_if_eq 29 dX10_kept_8 (by decide) (fun c8 => ?_) (fun c8 => ?_)
  · have h := Sat_pos c8 h
    refine r_bipush (v := -2) dX10_kept_29 (by decide) ?_
    exact r_ireturn rfl (by rw [← Sat_eq h]; exact ⟨rfl, rfl⟩) dX10_kept_31
  · have h := Sat_neg c8 h
    refine r_aload_n dX10_kept_11 0 rfl ?_
    obtain ⟨x12, e12, h⟩ := Sat_bind h
    refine r_getP fk_X10_63 rfl e12 dX10_kept_12 ?_
    refine r_iload_n dX10_kept_15 2 rfl ?_
    obtain ⟨x16, e16, h⟩ := Sat_bind h
    refine r_cV (t := 8) [.int l2] [] (m_X7_isFact x12 l2 μ e16) ck_X7_isFact lk_X10_188 in_X7_isFact se_X7_isFact (kd_of e16) ⟨rfl, by decide, by decide⟩ rfl rfl (Nat.le_of_ble_eq_true rfl) ⟨by decide, by decide⟩ ⟨Nat.zero_le _, Nat.zero_le _⟩ dX10_kept_16 ?_
    refine r_if_eq 29 dX10_kept_19 (by decide) (fun c19 => ?_) (fun c19 => ?_)
    · have h := Sat_pos c19 h
      refine r_bipush (v := -2) dX10_kept_29 (by decide) ?_
      exact r_ireturn rfl (by rw [← Sat_eq h]; exact ⟨rfl, rfl⟩) dX10_kept_31
    · have h := Sat_neg c19 h
      refine r_iload_n dX10_kept_22 3 rfl ?_
      obtain ⟨x23, e23, h⟩ := Sat_bind h
      refine r_cS [.int l3] [] (m_X10_isDay l3 μ e23) ck_X10_isDay lk_X10_214 st_X10_isDay rfl rfl (Nat.le_of_ble_eq_true rfl) ⟨by decide, by decide⟩ ⟨Nat.zero_le _, Nat.zero_le _⟩ dX10_kept_23 ?_
      refine r_if_ne 32 dX10_kept_26 (by decide) (fun c26 => ?_) (fun c26 => ?_)
      · have h := Sat_neg c26 h
        refine r_aload_n dX10_kept_32 0 rfl ?_
        obtain ⟨x33, e33, h⟩ := Sat_bind h
        refine r_getP fk_X10_84 rfl e33 dX10_kept_33 ?_
        refine r_aload_n dX10_kept_36 0 rfl ?_
        obtain ⟨x37, e37, h⟩ := Sat_bind h
        refine r_getI fk_X10_116 rfl e37 dX10_kept_37 ?_
        obtain ⟨x40, e40, h⟩ := Sat_bind h
        refine r_cV (t := 5) [.int x37] [] (m_X4_setTurning x33 x37 μ e40) ck_X4_setTurning lk_X10_220 in_X4_setTurning se_X4_setTurning (kd_of e40) ⟨rfl, by decide, by decide⟩ rfl rfl (Nat.le_of_ble_eq_true rfl) ⟨by decide, by decide⟩ ⟨Nat.zero_le _, Nat.zero_le _⟩ dX10_kept_40 ?_
        refine r_iconst (v := -1) dX10_kept_43 (by decide) ?_
        refine r_istore (lv' := [(4, .int (-1 : Int32)), (0, .ref a0), (1, .int l1), (2, .int l2), (3, .int l3)]) dX10_kept_44 (by decide) rfl ?_
        refine r_bipush (v := 9) dX10_kept_46 (by decide) ?_
        refine r_istore (lv' := [(5, .int (9 : Int32)), (4, .int (-1 : Int32)), (0, .ref a0), (1, .int l1), (2, .int l2), (3, .int l3)]) dX10_kept_48 (by decide) rfl ?_
        refine r_iconst (v := 0) dX10_kept_50 (by decide) ?_
        refine r_istore (lv' := [(6, .int (0 : Int32)), (5, .int (9 : Int32)), (4, .int (-1 : Int32)), (0, .ref a0), (1, .int l1), (2, .int l2), (3, .int l3)]) dX10_kept_51 (by decide) rfl ?_
        refine r_sub (lv' := [(0, .ref a0), (1, .int l1), (2, .int l2), (3, .int l3), (4, .int (-1 : Int32)), (5, .int (9 : Int32)), (6, .int (0 : Int32))]) [3, 4, 5, 6, 2, 1, 0] rfl ?_
        refine whl_K (s0 := (((-1 : Int32), (9 : Int32), (0 : Int32), x40) : Int32 × Int32 × Int32 × Mm)) (RR := fun (s53 : Int32 × Int32 × Int32 × Mm) => Rn_X10_kept G (fun v μ' => v = some (.int r.1) ∧ μ' = r.2) 53 [(0, .ref a0), (1, .int l1), (2, .int l2), (3, .int l3), (4, .int s53.1), (5, .int s53.2.1), (6, .int s53.2.2.1)] [] s53.2.2.2) ?_ (Sat_bindK h)
        intro s53 K53 hI53 hX53 h
        have J100 : ∀ (l4_100 : Int32) (l5_100 : Int32) (l6_100 : Int32) (μ_100 : Mm), Sat (f_X10_kept_J100 a0 l1 l2 l3 l4_100 l5_100 l6_100 μ_100) K53 → Rn_X10_kept G (fun v μ' => v = some (.int r.1) ∧ μ' = r.2) 100 [(0, .ref a0), (1, .int l1), (2, .int l2), (3, .int l3), (4, .int l4_100), (5, .int l5_100), (6, .int l6_100)] [] μ_100 := by
          intro l4_100 l5_100 l6_100 μ_100 h
          obtain ⟨v100, e100, h⟩ := Sat_bind h
          refine r_iinc (j := 6) (v := v100) (lv' := [(6, .int v100), (0, .ref a0), (1, .int l1), (2, .int l2), (3, .int l3), (4, .int l4_100), (5, .int l5_100)]) dX10_kept_100 rfl (iinc_v e100 (by decide)) (by decide) rfl ?_
          refine r_goto 53 dX10_kept_103 (by decide) ?_
          exact r_sub [1, 2, 3, 4, 5, 6, 0] rfl (hI53 _ (Sat_some h))
        refine r_iload dX10_kept_53 6 rfl ?_
        refine r_iconst (v := 1) dX10_kept_55 (by decide) ?_
        refine r_aload_n dX10_kept_56 0 rfl ?_
        obtain ⟨x57, e57, h⟩ := Sat_bind h
        refine r_getP fk_X10_63 rfl e57 dX10_kept_57 ?_
        obtain ⟨x60, e60, h⟩ := Sat_bind h
        refine r_getI fk_X10_153 rfl e60 dX10_kept_60 ?_
        refine r_ishl dX10_kept_63 ?_
        refine r_icmp_ge 106 dX10_kept_64 (by decide) (fun c64 => ?_) (fun c64 => ?_)
        · have h := Sat_pos c64 h
          have h := hX53 _ (Sat_some h)
          refine r_iload dX10_kept_106 4 rfl ?_
          exact r_ireturn rfl (by rw [← Sat_eq h]; exact ⟨rfl, rfl⟩) dX10_kept_108
        · have h := Sat_neg c64 h
          refine r_iload dX10_kept_67 6 rfl ?_
          obtain ⟨x69, e69, h⟩ := Sat_bind h
          refine r_cS [.int s53.2.2.1] [] (m_J6_bitCount_0f7a4 s53.2.2.1 s53.2.2.2 e69) ck_J6_bitCount_0f7a4 lk_X10_333 st_J6_bitCount_0f7a4 rfl rfl (Nat.le_of_ble_eq_true rfl) ⟨by decide, by decide⟩ ⟨Nat.zero_le _, Nat.zero_le _⟩ dX10_kept_69 ?_
          refine r_iload dX10_kept_72 5 rfl ?_
          refine r_icmp_ge 100 dX10_kept_74 (by decide) (fun c74 => ?_) (fun c74 => ?_)
          · have h := Sat_pos c74 h
            exact r_sub [0, 1, 2, 3, 4, 5, 6] rfl (J100 s53.1 s53.2.1 s53.2.2.1 s53.2.2.2 h)
          · have h := Sat_neg c74 h
            refine r_aload_n dX10_kept_77 0 rfl ?_
            refine r_iload dX10_kept_78 6 rfl ?_
            refine r_iload_n dX10_kept_80 1 rfl ?_
            refine r_iload_n dX10_kept_81 2 rfl ?_
            refine r_iload_n dX10_kept_82 3 rfl ?_
            obtain ⟨x83, e83, h⟩ := Sat_bind h
            refine r_cV (t := 11) [.int s53.2.2.1, .int l1, .int l2, .int l3] [] (m_X10_isKeptBy a0 s53.2.2.1 l1 l2 l3 s53.2.2.2 e83) ck_X10_isKeptBy lk_X10_379 in_X10_isKeptBy se_X10_isKeptBy (kd_of e83) ⟨rfl, by decide, by decide⟩ rfl rfl (Nat.le_of_ble_eq_true rfl) ⟨by decide, by decide⟩ ⟨Nat.zero_le _, Nat.zero_le _⟩ dX10_kept_83 ?_
            refine r_if_eq 100 dX10_kept_86 (by decide) (fun c86 => ?_) (fun c86 => ?_)
            · have h := Sat_pos c86 h
              exact r_sub [0, 1, 2, 3, 4, 5, 6] rfl (J100 s53.1 s53.2.1 s53.2.2.1 x83.2 h)
            · have h := Sat_neg c86 h
              refine r_iload dX10_kept_89 6 rfl ?_
              obtain ⟨x91, e91, h⟩ := Sat_bind h
              refine r_cS [.int s53.2.2.1] [] (m_J6_bitCount_0f7a4 s53.2.2.1 x83.2 e91) ck_J6_bitCount_0f7a4 lk_X10_333 st_J6_bitCount_0f7a4 rfl rfl (Nat.le_of_ble_eq_true rfl) ⟨by decide, by decide⟩ ⟨Nat.zero_le _, Nat.zero_le _⟩ dX10_kept_91 ?_
              refine r_istore (lv' := [(5, .int x91), (0, .ref a0), (1, .int l1), (2, .int l2), (3, .int l3), (4, .int s53.1), (6, .int s53.2.2.1)]) dX10_kept_94 (by decide) rfl ?_
              refine r_iload dX10_kept_96 6 rfl ?_
              refine r_istore (lv' := [(4, .int s53.2.2.1), (5, .int x91), (0, .ref a0), (1, .int l1), (2, .int l2), (3, .int l3), (6, .int s53.2.2.1)]) dX10_kept_98 (by decide) rfl ?_
              exact r_sub [2, 3, 4, 5, 0, 1, 6] rfl (J100 s53.2.2.1 x91 s53.2.2.1 x83.2 h)
      · have h := Sat_pos c26 h
        refine r_bipush (v := -2) dX10_kept_29 (by decide) ?_
        exact r_ireturn rfl (by rw [← Sat_eq h]; exact ⟨rfl, rfl⟩) dX10_kept_31
theorem dX1_knowingBehind_0 : decode cX1_knowingBehind 0 = .ok (.iconst 0, 1) := by decide +kernel
theorem dX1_knowingBehind_1 : decode cX1_knowingBehind 1 = .ok (.istore 4, 2) := by decide +kernel
theorem dX1_knowingBehind_3 : decode cX1_knowingBehind 3 = .ok (.aload_n 0, 1) := by decide +kernel
theorem dX1_knowingBehind_4 : decode cX1_knowingBehind 4 = .ok (.iload_n 1, 1) := by decide +kernel
theorem dX1_knowingBehind_5 : decode cX1_knowingBehind 5 = .ok (.invokevirtual 129, 3) := by decide +kernel
theorem dX1_knowingBehind_8 : decode cX1_knowingBehind 8 = .ok (.astore 5, 2) := by decide +kernel
theorem dX1_knowingBehind_10 : decode cX1_knowingBehind 10 = .ok (.iconst 0, 1) := by decide +kernel
theorem dX1_knowingBehind_11 : decode cX1_knowingBehind 11 = .ok (.istore 6, 2) := by decide +kernel
theorem dX1_knowingBehind_13 : decode cX1_knowingBehind 13 = .ok (.iload 6, 2) := by decide +kernel
theorem dX1_knowingBehind_15 : decode cX1_knowingBehind 15 = .ok (.aload_n 0, 1) := by decide +kernel
theorem dX1_knowingBehind_16 : decode cX1_knowingBehind 16 = .ok (.getfield 31, 3) := by decide +kernel
theorem dX1_knowingBehind_19 : decode cX1_knowingBehind 19 = .ok (.getfield 149, 3) := by decide +kernel
theorem dX1_knowingBehind_22 : decode cX1_knowingBehind 22 = .ok (.if_icmp .ge 34, 3) := by decide +kernel
theorem dX1_knowingBehind_25 : decode cX1_knowingBehind 25 = .ok (.aload 5, 2) := by decide +kernel
theorem dX1_knowingBehind_27 : decode cX1_knowingBehind 27 = .ok (.iload_n 2, 1) := by decide +kernel
theorem dX1_knowingBehind_28 : decode cX1_knowingBehind 28 = .ok (.iload 6, 2) := by decide +kernel
theorem dX1_knowingBehind_30 : decode cX1_knowingBehind 30 = .ok (.invokestatic 136, 3) := by decide +kernel
theorem dX1_knowingBehind_33 : decode cX1_knowingBehind 33 = .ok (.iconst 2, 1) := by decide +kernel
theorem dX1_knowingBehind_34 : decode cX1_knowingBehind 34 = .ok (.iload_n 3, 1) := by decide +kernel
theorem dX1_knowingBehind_35 : decode cX1_knowingBehind 35 = .ok (.imul, 1) := by decide +kernel
theorem dX1_knowingBehind_36 : decode cX1_knowingBehind 36 = .ok (.iconst 1, 1) := by decide +kernel
theorem dX1_knowingBehind_37 : decode cX1_knowingBehind 37 = .ok (.iadd, 1) := by decide +kernel
theorem dX1_knowingBehind_38 : decode cX1_knowingBehind 38 = .ok (.if_icmp .gt 12, 3) := by decide +kernel
theorem dX1_knowingBehind_41 : decode cX1_knowingBehind 41 = .ok (.iload 4, 2) := by decide +kernel
theorem dX1_knowingBehind_43 : decode cX1_knowingBehind 43 = .ok (.iconst 1, 1) := by decide +kernel
theorem dX1_knowingBehind_44 : decode cX1_knowingBehind 44 = .ok (.iload 6, 2) := by decide +kernel
theorem dX1_knowingBehind_46 : decode cX1_knowingBehind 46 = .ok (.ishl, 1) := by decide +kernel
theorem dX1_knowingBehind_47 : decode cX1_knowingBehind 47 = .ok (.ior, 1) := by decide +kernel
theorem dX1_knowingBehind_48 : decode cX1_knowingBehind 48 = .ok (.istore 4, 2) := by decide +kernel
theorem dX1_knowingBehind_50 : decode cX1_knowingBehind 50 = .ok (.iinc 6 1, 3) := by decide +kernel
theorem dX1_knowingBehind_53 : decode cX1_knowingBehind 53 = .ok (.goto (-40), 3) := by decide +kernel
theorem dX1_knowingBehind_56 : decode cX1_knowingBehind 56 = .ok (.iload 4, 2) := by decide +kernel
theorem dX1_knowingBehind_58 : decode cX1_knowingBehind 58 = .ok (.ireturn, 1) := by decide +kernel
noncomputable def f_X1_knowingBehind_J50 (a0 : Nat) (l2 : Int32) (l3 : Int32) (l4 : Int32) (l5 : Nat) (l6 : Int32) (μ : Mm) : Option ((Int32 × Int32) ⊕ (Int32)) :=
  (some (l6 + (1 : Int32))).bind fun v50 => some (.inl (l4, v50))
noncomputable def f_X1_knowingBehind_L13 (a0 : Nat) (l2 : Int32) (l3 : Int32) (l5 : Nat) (μ : Mm) (s13 : Int32 × Int32) : Option ((Int32 × Int32) ⊕ (Int32)) :=
  (gf_P 2 5 a0 μ).bind fun x16 => (gf_I 8 9 x16 μ).bind fun x19 => if x19 ≤ s13.2 then some (.inr s13.1) else (f_X1_momentIn l5 l2 s13.2 μ).bind fun x30 => if (((2 : Int32) * l3) + (1 : Int32)) < x30 then f_X1_knowingBehind_J50 a0 l2 l3 s13.1 l5 s13.2 μ else (some (s13.1 ||| ((1 : Int32) <<< (s13.2 &&& 31)))).bind fun v48 => f_X1_knowingBehind_J50 a0 l2 l3 v48 l5 s13.2 μ
noncomputable def f_X1_knowingBehind (a0 : Nat) (l1 : Int32) (l2 : Int32) (l3 : Int32) (μ : Mm) : Option Int32 :=
  if (mm_K μ a0).1 = 2 then (f_X1_lineOf a0 l1 μ).bind fun x5 => (whl (f_X1_knowingBehind_L13 a0 l2 l3 x5 μ) ((0 : Int32), (0 : Int32))).bind (fun b13 => some b13) else none
abbrev Rn_X1_knowingBehind (G : Gv) (Q : Option Value → Mm → Prop) (pc : Nat) (lv : List (Nat × Value)) (st : List Value) (μ : Mm) : Prop := Rn G RX1 cX1_knowingBehind 7 (some .int) "knowingBehind" (rmd 1 0 0) (Zm G 0 0 Q) 0 0 pc lv st μ
set_option maxRecDepth 100000 in
set_option maxHeartbeats 4000000 in
theorem m_X1_knowingBehind {G : Gv} (a0 : Nat) (l1 : Int32) (l2 : Int32) (l3 : Int32) (μ : Mm) {r : Int32} (hx : f_X1_knowingBehind a0 l1 l2 l3 μ = some r) : Mt G yX1_knowingBehind cX1_knowingBehind 7 (some .int) 1 0 0 [.ref a0, .int l1, .int l2, .int l3] μ (fun v μ' => v = some (.int r) ∧ μ' = μ) := by
  refine Mt.of (by decide) (Nat.le_of_ble_eq_true rfl) ?_
  show Rn_X1_knowingBehind G (fun v μ' => v = some (.int r) ∧ μ' = μ) 0 [(0, .ref a0), (1, .int l1), (2, .int l2), (3, .int l3)] [] μ
  obtain ⟨_, h⟩ := Sat_ifp (show Sat (f_X1_knowingBehind a0 l1 l2 l3 μ) (fun x => x = r) from ⟨_, hx, rfl⟩)
  refine r_iconst (v := 0) dX1_knowingBehind_0 (by decide) ?_
  refine r_istore (lv' := [(4, .int (0 : Int32)), (0, .ref a0), (1, .int l1), (2, .int l2), (3, .int l3)]) dX1_knowingBehind_1 (by decide) rfl ?_
  refine r_aload_n dX1_knowingBehind_3 1 rfl ?_
  refine r_iload_n dX1_knowingBehind_4 2 rfl ?_
  obtain ⟨x5, e5, h⟩ := Sat_bind h
  refine r_cV (t := 2) [.int l1] [] (m_X1_lineOf a0 l1 μ e5) ck_X1_lineOf lk_X1_129 in_X1_lineOf se_X1_lineOf (kd_of e5) ⟨rfl, by decide, by decide⟩ rfl rfl (Nat.le_of_ble_eq_true rfl) ⟨by decide, by decide⟩ ⟨Nat.zero_le _, Nat.zero_le _⟩ dX1_knowingBehind_5 ?_
  refine r_astore (lv' := [(5, .ref x5), (4, .int (0 : Int32)), (0, .ref a0), (1, .int l1), (2, .int l2), (3, .int l3)]) dX1_knowingBehind_8 (by decide) rfl ?_
  refine r_iconst (v := 0) dX1_knowingBehind_10 (by decide) ?_
  refine r_istore (lv' := [(6, .int (0 : Int32)), (5, .ref x5), (4, .int (0 : Int32)), (0, .ref a0), (1, .int l1), (2, .int l2), (3, .int l3)]) dX1_knowingBehind_11 (by decide) rfl ?_
  refine r_sub (lv' := [(0, .ref a0), (2, .int l2), (3, .int l3), (4, .int (0 : Int32)), (5, .ref x5), (6, .int (0 : Int32))]) [3, 5, 6, 2, 1, 0] rfl ?_
  refine whl_K (s0 := (((0 : Int32), (0 : Int32)) : Int32 × Int32)) (RR := fun (s13 : Int32 × Int32) => Rn_X1_knowingBehind G (fun v μ' => v = some (.int r) ∧ μ' = μ) 13 [(0, .ref a0), (2, .int l2), (3, .int l3), (4, .int s13.1), (5, .ref x5), (6, .int s13.2)] [] μ) ?_ (Sat_bindK h)
  intro s13 K13 hI13 hX13 h
  have J50 : ∀ (l4_50 : Int32) (l6_50 : Int32), Sat (f_X1_knowingBehind_J50 a0 l2 l3 l4_50 x5 l6_50 μ) K13 → Rn_X1_knowingBehind G (fun v μ' => v = some (.int r) ∧ μ' = μ) 50 [(0, .ref a0), (2, .int l2), (3, .int l3), (4, .int l4_50), (5, .ref x5), (6, .int l6_50)] [] μ := by
    intro l4_50 l6_50 h
    obtain ⟨v50, e50, h⟩ := Sat_bind h
    refine r_iinc (j := 5) (v := v50) (lv' := [(6, .int v50), (0, .ref a0), (2, .int l2), (3, .int l3), (4, .int l4_50), (5, .ref x5)]) dX1_knowingBehind_50 rfl (iinc_v e50 (by decide)) (by decide) rfl ?_
    refine r_goto 13 dX1_knowingBehind_53 (by decide) ?_
    exact r_sub [1, 2, 3, 4, 5, 0] rfl (hI13 _ (Sat_some h))
  refine r_iload dX1_knowingBehind_13 5 rfl ?_
  refine r_aload_n dX1_knowingBehind_15 0 rfl ?_
  obtain ⟨x16, e16, h⟩ := Sat_bind h
  refine r_getP fk_X1_31 rfl e16 dX1_knowingBehind_16 ?_
  obtain ⟨x19, e19, h⟩ := Sat_bind h
  refine r_getI fk_X1_149 rfl e19 dX1_knowingBehind_19 ?_
  refine r_icmp_ge 56 dX1_knowingBehind_22 (by decide) (fun c22 => ?_) (fun c22 => ?_)
  · have h := Sat_pos c22 h
    have h := hX13 _ (Sat_some h)
    refine r_iload dX1_knowingBehind_56 3 rfl ?_
    exact r_ireturn rfl (by rw [← Sat_eq h]; exact ⟨rfl, rfl⟩) dX1_knowingBehind_58
  · have h := Sat_neg c22 h
    refine r_aload dX1_knowingBehind_25 4 rfl ?_
    refine r_iload_n dX1_knowingBehind_27 1 rfl ?_
    refine r_iload dX1_knowingBehind_28 5 rfl ?_
    obtain ⟨x30, e30, h⟩ := Sat_bind h
    refine r_cS [.ref x5, .int l2, .int s13.2] [] (m_X1_momentIn x5 l2 s13.2 μ e30) ck_X1_momentIn lk_X1_136 st_X1_momentIn rfl rfl (Nat.le_of_ble_eq_true rfl) ⟨by decide, by decide⟩ ⟨Nat.zero_le _, Nat.zero_le _⟩ dX1_knowingBehind_30 ?_
    refine r_iconst (v := 2) dX1_knowingBehind_33 (by decide) ?_
    refine r_iload_n dX1_knowingBehind_34 2 rfl ?_
    refine r_imul dX1_knowingBehind_35 ?_
    refine r_iconst (v := 1) dX1_knowingBehind_36 (by decide) ?_
    refine r_iadd dX1_knowingBehind_37 ?_
    refine r_icmp_gt 50 dX1_knowingBehind_38 (by decide) (fun c38 => ?_) (fun c38 => ?_)
    · have h := Sat_pos c38 h
      exact r_sub [0, 1, 2, 3, 4, 5] rfl (J50 s13.1 s13.2 h)
    · have h := Sat_neg c38 h
      refine r_iload dX1_knowingBehind_41 3 rfl ?_
      refine r_iconst (v := 1) dX1_knowingBehind_43 (by decide) ?_
      refine r_iload dX1_knowingBehind_44 5 rfl ?_
      refine r_ishl dX1_knowingBehind_46 ?_
      refine r_ior dX1_knowingBehind_47 ?_
      obtain ⟨v48, e48, h⟩ := Sat_bind h
      refine r_topi (Option.some.inj e48) ?_
      refine r_istore (lv' := [(4, .int v48), (0, .ref a0), (2, .int l2), (3, .int l3), (5, .ref x5), (6, .int s13.2)]) dX1_knowingBehind_48 (by decide) rfl ?_
      exact r_sub [1, 2, 3, 0, 4, 5] rfl (J50 v48 s13.2 h)
theorem dX10_knows_0 : decode cX10_knows 0 = .ok (.aload_n 0, 1) := by decide +kernel
theorem dX10_knows_1 : decode cX10_knows 1 = .ok (.getfield 63, 3) := by decide +kernel
theorem dX10_knows_4 : decode cX10_knows 4 = .ok (.iload_n 1, 1) := by decide +kernel
theorem dX10_knows_5 : decode cX10_knows 5 = .ok (.invokevirtual 178, 3) := by decide +kernel
theorem dX10_knows_8 : decode cX10_knows 8 = .ok (.ifCond .eq 17, 3) := by decide +kernel
theorem dX10_knows_11 : decode cX10_knows 11 = .ok (.iload_n 2, 1) := by decide +kernel
theorem dX10_knows_12 : decode cX10_knows 12 = .ok (.invokestatic 214, 3) := by decide +kernel
theorem dX10_knows_15 : decode cX10_knows 15 = .ok (.ifCond .eq 10, 3) := by decide +kernel
theorem dX10_knows_18 : decode cX10_knows 18 = .ok (.iload_n 3, 1) := by decide +kernel
theorem dX10_knows_19 : decode cX10_knows 19 = .ok (.invokestatic 217, 3) := by decide +kernel
theorem dX10_knows_22 : decode cX10_knows 22 = .ok (.ifCond .ne 6, 3) := by decide +kernel
theorem dX10_knows_25 : decode cX10_knows 25 = .ok (.bipush (-2), 2) := by decide +kernel
theorem dX10_knows_27 : decode cX10_knows 27 = .ok (.ireturn, 1) := by decide +kernel
theorem dX10_knows_28 : decode cX10_knows 28 = .ok (.aload_n 0, 1) := by decide +kernel
theorem dX10_knows_29 : decode cX10_knows 29 = .ok (.getfield 84, 3) := by decide +kernel
theorem dX10_knows_32 : decode cX10_knows 32 = .ok (.aload_n 0, 1) := by decide +kernel
theorem dX10_knows_33 : decode cX10_knows 33 = .ok (.getfield 116, 3) := by decide +kernel
theorem dX10_knows_36 : decode cX10_knows 36 = .ok (.invokevirtual 220, 3) := by decide +kernel
theorem dX10_knows_39 : decode cX10_knows 39 = .ok (.iconst 0, 1) := by decide +kernel
theorem dX10_knows_40 : decode cX10_knows 40 = .ok (.istore 4, 2) := by decide +kernel
theorem dX10_knows_42 : decode cX10_knows 42 = .ok (.iconst 0, 1) := by decide +kernel
theorem dX10_knows_43 : decode cX10_knows 43 = .ok (.istore 5, 2) := by decide +kernel
theorem dX10_knows_45 : decode cX10_knows 45 = .ok (.iload 5, 2) := by decide +kernel
theorem dX10_knows_47 : decode cX10_knows 47 = .ok (.aload_n 0, 1) := by decide +kernel
theorem dX10_knows_48 : decode cX10_knows 48 = .ok (.getfield 63, 3) := by decide +kernel
theorem dX10_knows_51 : decode cX10_knows 51 = .ok (.getfield 156, 3) := by decide +kernel
theorem dX10_knows_54 : decode cX10_knows 54 = .ok (.getfield 160, 3) := by decide +kernel
theorem dX10_knows_57 : decode cX10_knows 57 = .ok (.if_icmp .ge 40, 3) := by decide +kernel
theorem dX10_knows_60 : decode cX10_knows 60 = .ok (.aload_n 0, 1) := by decide +kernel
theorem dX10_knows_61 : decode cX10_knows 61 = .ok (.getfield 84, 3) := by decide +kernel
theorem dX10_knows_64 : decode cX10_knows 64 = .ok (.iload 5, 2) := by decide +kernel
theorem dX10_knows_66 : decode cX10_knows 66 = .ok (.iload_n 3, 1) := by decide +kernel
theorem dX10_knows_67 : decode cX10_knows 67 = .ok (.iconst 0, 1) := by decide +kernel
theorem dX10_knows_68 : decode cX10_knows 68 = .ok (.invokevirtual 223, 3) := by decide +kernel
theorem dX10_knows_71 : decode cX10_knows 71 = .ok (.iload 4, 2) := by decide +kernel
theorem dX10_knows_73 : decode cX10_knows 73 = .ok (.aload_n 0, 1) := by decide +kernel
theorem dX10_knows_74 : decode cX10_knows 74 = .ok (.getfield 84, 3) := by decide +kernel
theorem dX10_knows_77 : decode cX10_knows 77 = .ok (.iload_n 2, 1) := by decide +kernel
theorem dX10_knows_78 : decode cX10_knows 78 = .ok (.invokevirtual 227, 3) := by decide +kernel
theorem dX10_knows_81 : decode cX10_knows 81 = .ok (.iload_n 1, 1) := by decide +kernel
theorem dX10_knows_82 : decode cX10_knows 82 = .ok (.ishr, 1) := by decide +kernel
theorem dX10_knows_83 : decode cX10_knows 83 = .ok (.iconst 1, 1) := by decide +kernel
theorem dX10_knows_84 : decode cX10_knows 84 = .ok (.iand, 1) := by decide +kernel
theorem dX10_knows_85 : decode cX10_knows 85 = .ok (.iload 5, 2) := by decide +kernel
theorem dX10_knows_87 : decode cX10_knows 87 = .ok (.ishl, 1) := by decide +kernel
theorem dX10_knows_88 : decode cX10_knows 88 = .ok (.ior, 1) := by decide +kernel
theorem dX10_knows_89 : decode cX10_knows 89 = .ok (.istore 4, 2) := by decide +kernel
theorem dX10_knows_91 : decode cX10_knows 91 = .ok (.iinc 5 1, 3) := by decide +kernel
theorem dX10_knows_94 : decode cX10_knows 94 = .ok (.goto (-49), 3) := by decide +kernel
theorem dX10_knows_97 : decode cX10_knows 97 = .ok (.iload 4, 2) := by decide +kernel
theorem dX10_knows_99 : decode cX10_knows 99 = .ok (.ireturn, 1) := by decide +kernel
noncomputable def f_X10_knows_L45 (a0 : Nat) (l1 : Int32) (l2 : Int32) (l3 : Int32) (s45 : Int32 × Int32 × Mm) : Option ((Int32 × Int32 × Mm) ⊕ (Int32 × Mm)) :=
  (gf_P 11 13 a0 s45.2.2).bind fun x48 => (gf_P 8 3 x48 s45.2.2).bind fun x51 => (gf_I 3 1 x51 s45.2.2).bind fun x54 => if x54 ≤ s45.2.1 then some (.inr (s45.1, s45.2.2)) else (gf_P 11 3 a0 s45.2.2).bind fun x61 => (f_X4_setFact x61 s45.2.1 l3 (0 : Int32) s45.2.2).bind fun x68 => (gf_P 11 3 a0 x68).bind fun x74 => (f_X4_behind x74 l2 x68).bind fun x78 => (some (s45.1 ||| (((x78 >>> (l1 &&& 31)) &&& (1 : Int32)) <<< (s45.2.1 &&& 31)))).bind fun v89 => (some (s45.2.1 + (1 : Int32))).bind fun v91 => some (.inl (v89, v91, x68))
noncomputable def f_X10_knows (a0 : Nat) (l1 : Int32) (l2 : Int32) (l3 : Int32) (μ : Mm) : Option (Int32 × Mm) :=
  if (mm_K μ a0).1 = 11 then (gf_P 11 13 a0 μ).bind fun x1 => (f_X7_isPerson x1 l1 μ).bind fun x5 => if x5 = 0 then some ((-2 : Int32), μ) else (f_X10_isDay l2 μ).bind fun x12 => if x12 = 0 then some ((-2 : Int32), μ) else (f_X10_areWays l3 μ).bind fun x19 => if x19 = 0 then some ((-2 : Int32), μ) else (gf_P 11 3 a0 μ).bind fun x29 => (gf_I 11 15 a0 μ).bind fun x33 => (f_X4_setTurning x29 x33 μ).bind fun x36 => (whl (f_X10_knows_L45 a0 l1 l2 l3) ((0 : Int32), (0 : Int32), x36)).bind (fun b45 => some (b45.1, b45.2)) else none
abbrev Rn_X10_knows (G : Gv) (Q : Option Value → Mm → Prop) (pc : Nat) (lv : List (Nat × Value)) (st : List Value) (μ : Mm) : Prop := Rn G RX10 cX10_knows 6 (some .int) "knows" (rmd 4 0 0) (Zm G 0 0 Q) 0 0 pc lv st μ
set_option maxRecDepth 100000 in
set_option maxHeartbeats 4000000 in
theorem m_X10_knows {G : Gv} (a0 : Nat) (l1 : Int32) (l2 : Int32) (l3 : Int32) (μ : Mm) {r : (Int32 × Mm)} (hx : f_X10_knows a0 l1 l2 l3 μ = some r) : Mt G yX10_knows cX10_knows 6 (some .int) 4 0 0 [.ref a0, .int l1, .int l2, .int l3] μ (fun v μ' => v = some (.int r.1) ∧ μ' = r.2) := by
  refine Mt.of (by decide) (Nat.le_of_ble_eq_true rfl) ?_
  show Rn_X10_knows G (fun v μ' => v = some (.int r.1) ∧ μ' = r.2) 0 [(0, .ref a0), (1, .int l1), (2, .int l2), (3, .int l3)] [] μ
  obtain ⟨_, h⟩ := Sat_ifp (show Sat (f_X10_knows a0 l1 l2 l3 μ) (fun x => x = r) from ⟨_, hx, rfl⟩)
  refine r_aload_n dX10_knows_0 0 rfl ?_
  obtain ⟨x1, e1, h⟩ := Sat_bind h
  refine r_getP fk_X10_63 rfl e1 dX10_knows_1 ?_
  refine r_iload_n dX10_knows_4 1 rfl ?_
  obtain ⟨x5, e5, h⟩ := Sat_bind h
  refine r_cV (t := 8) [.int l1] [] (m_X7_isPerson x1 l1 μ e5) ck_X7_isPerson lk_X10_178 in_X7_isPerson se_X7_isPerson (kd_of e5) ⟨rfl, by decide, by decide⟩ rfl rfl (Nat.le_of_ble_eq_true rfl) ⟨by decide, by decide⟩ ⟨Nat.zero_le _, Nat.zero_le _⟩ dX10_knows_5 ?_
  refine r_if_eq 25 dX10_knows_8 (by decide) (fun c8 => ?_) (fun c8 => ?_)
  · have h := Sat_pos c8 h
    refine r_bipush (v := -2) dX10_knows_25 (by decide) ?_
    exact r_ireturn rfl (by rw [← Sat_eq h]; exact ⟨rfl, rfl⟩) dX10_knows_27
  · have h := Sat_neg c8 h
    refine r_iload_n dX10_knows_11 2 rfl ?_
    obtain ⟨x12, e12, h⟩ := Sat_bind h
    refine r_cS [.int l2] [] (m_X10_isDay l2 μ e12) ck_X10_isDay lk_X10_214 st_X10_isDay rfl rfl (Nat.le_of_ble_eq_true rfl) ⟨by decide, by decide⟩ ⟨Nat.zero_le _, Nat.zero_le _⟩ dX10_knows_12 ?_
    refine r_if_eq 25 dX10_knows_15 (by decide) (fun c15 => ?_) (fun c15 => ?_)
    · have h := Sat_pos c15 h
      refine r_bipush (v := -2) dX10_knows_25 (by decide) ?_
      exact r_ireturn rfl (by rw [← Sat_eq h]; exact ⟨rfl, rfl⟩) dX10_knows_27
    · have h := Sat_neg c15 h
      refine r_iload_n dX10_knows_18 3 rfl ?_
      obtain ⟨x19, e19, h⟩ := Sat_bind h
      refine r_cS [.int l3] [] (m_X10_areWays l3 μ e19) ck_X10_areWays lk_X10_217 st_X10_areWays rfl rfl (Nat.le_of_ble_eq_true rfl) ⟨by decide, by decide⟩ ⟨Nat.zero_le _, Nat.zero_le _⟩ dX10_knows_19 ?_
      refine r_if_ne 28 dX10_knows_22 (by decide) (fun c22 => ?_) (fun c22 => ?_)
      · have h := Sat_neg c22 h
        refine r_aload_n dX10_knows_28 0 rfl ?_
        obtain ⟨x29, e29, h⟩ := Sat_bind h
        refine r_getP fk_X10_84 rfl e29 dX10_knows_29 ?_
        refine r_aload_n dX10_knows_32 0 rfl ?_
        obtain ⟨x33, e33, h⟩ := Sat_bind h
        refine r_getI fk_X10_116 rfl e33 dX10_knows_33 ?_
        obtain ⟨x36, e36, h⟩ := Sat_bind h
        refine r_cV (t := 5) [.int x33] [] (m_X4_setTurning x29 x33 μ e36) ck_X4_setTurning lk_X10_220 in_X4_setTurning se_X4_setTurning (kd_of e36) ⟨rfl, by decide, by decide⟩ rfl rfl (Nat.le_of_ble_eq_true rfl) ⟨by decide, by decide⟩ ⟨Nat.zero_le _, Nat.zero_le _⟩ dX10_knows_36 ?_
        refine r_iconst (v := 0) dX10_knows_39 (by decide) ?_
        refine r_istore (lv' := [(4, .int (0 : Int32)), (0, .ref a0), (1, .int l1), (2, .int l2), (3, .int l3)]) dX10_knows_40 (by decide) rfl ?_
        refine r_iconst (v := 0) dX10_knows_42 (by decide) ?_
        refine r_istore (lv' := [(5, .int (0 : Int32)), (4, .int (0 : Int32)), (0, .ref a0), (1, .int l1), (2, .int l2), (3, .int l3)]) dX10_knows_43 (by decide) rfl ?_
        refine r_sub (lv' := [(0, .ref a0), (1, .int l1), (2, .int l2), (3, .int l3), (4, .int (0 : Int32)), (5, .int (0 : Int32))]) [2, 3, 4, 5, 1, 0] rfl ?_
        refine whl_K (s0 := (((0 : Int32), (0 : Int32), x36) : Int32 × Int32 × Mm)) (RR := fun (s45 : Int32 × Int32 × Mm) => Rn_X10_knows G (fun v μ' => v = some (.int r.1) ∧ μ' = r.2) 45 [(0, .ref a0), (1, .int l1), (2, .int l2), (3, .int l3), (4, .int s45.1), (5, .int s45.2.1)] [] s45.2.2) ?_ (Sat_bindK h)
        intro s45 K45 hI45 hX45 h
        refine r_iload dX10_knows_45 5 rfl ?_
        refine r_aload_n dX10_knows_47 0 rfl ?_
        obtain ⟨x48, e48, h⟩ := Sat_bind h
        refine r_getP fk_X10_63 rfl e48 dX10_knows_48 ?_
        obtain ⟨x51, e51, h⟩ := Sat_bind h
        refine r_getP fk_X10_156 rfl e51 dX10_knows_51 ?_
        obtain ⟨x54, e54, h⟩ := Sat_bind h
        refine r_getI fk_X10_160 rfl e54 dX10_knows_54 ?_
        refine r_icmp_ge 97 dX10_knows_57 (by decide) (fun c57 => ?_) (fun c57 => ?_)
        · have h := Sat_pos c57 h
          have h := hX45 _ (Sat_some h)
          refine r_iload dX10_knows_97 4 rfl ?_
          exact r_ireturn rfl (by rw [← Sat_eq h]; exact ⟨rfl, rfl⟩) dX10_knows_99
        · have h := Sat_neg c57 h
          refine r_aload_n dX10_knows_60 0 rfl ?_
          obtain ⟨x61, e61, h⟩ := Sat_bind h
          refine r_getP fk_X10_84 rfl e61 dX10_knows_61 ?_
          refine r_iload dX10_knows_64 5 rfl ?_
          refine r_iload_n dX10_knows_66 3 rfl ?_
          refine r_iconst (v := 0) dX10_knows_67 (by decide) ?_
          obtain ⟨x68, e68, h⟩ := Sat_bind h
          refine r_cV (t := 5) [.int s45.2.1, .int l3, .int (0 : Int32)] [] (m_X4_setFact x61 s45.2.1 l3 (0 : Int32) s45.2.2 e68) ck_X4_setFact lk_X10_223 in_X4_setFact se_X4_setFact (kd_of e68) ⟨rfl, by decide, by decide⟩ rfl rfl (Nat.le_of_ble_eq_true rfl) ⟨by decide, by decide⟩ ⟨Nat.zero_le _, Nat.zero_le _⟩ dX10_knows_68 ?_
          refine r_iload dX10_knows_71 4 rfl ?_
          refine r_aload_n dX10_knows_73 0 rfl ?_
          obtain ⟨x74, e74, h⟩ := Sat_bind h
          refine r_getP fk_X10_84 rfl e74 dX10_knows_74 ?_
          refine r_iload_n dX10_knows_77 2 rfl ?_
          obtain ⟨x78, e78, h⟩ := Sat_bind h
          refine r_cV (t := 5) [.int l2] [.int s45.1] (m_X4_behind x74 l2 x68 e78) ck_X4_behind lk_X10_227 in_X4_behind se_X4_behind (kd_of e78) ⟨rfl, by decide, by decide⟩ rfl rfl (Nat.le_of_ble_eq_true rfl) ⟨by decide, by decide⟩ ⟨Nat.zero_le _, Nat.zero_le _⟩ dX10_knows_78 ?_
          refine r_iload_n dX10_knows_81 1 rfl ?_
          refine r_ishr dX10_knows_82 ?_
          refine r_iconst (v := 1) dX10_knows_83 (by decide) ?_
          refine r_iand dX10_knows_84 ?_
          refine r_iload dX10_knows_85 5 rfl ?_
          refine r_ishl dX10_knows_87 ?_
          refine r_ior dX10_knows_88 ?_
          obtain ⟨v89, e89, h⟩ := Sat_bind h
          refine r_topi (Option.some.inj e89) ?_
          refine r_istore (lv' := [(4, .int v89), (0, .ref a0), (1, .int l1), (2, .int l2), (3, .int l3), (5, .int s45.2.1)]) dX10_knows_89 (by decide) rfl ?_
          obtain ⟨v91, e91, h⟩ := Sat_bind h
          refine r_iinc (j := 5) (v := v91) (lv' := [(5, .int v91), (4, .int v89), (0, .ref a0), (1, .int l1), (2, .int l2), (3, .int l3)]) dX10_knows_91 rfl (iinc_v e91 (by decide)) (by decide) rfl ?_
          refine r_goto 45 dX10_knows_94 (by decide) ?_
          exact r_sub [2, 3, 4, 5, 1, 0] rfl (hI45 _ (Sat_some h))
      · have h := Sat_pos c22 h
        refine r_bipush (v := -2) dX10_knows_25 (by decide) ?_
        exact r_ireturn rfl (by rw [← Sat_eq h]; exact ⟨rfl, rfl⟩) dX10_knows_27
theorem dX1_dayOfAll_0 : decode cX1_dayOfAll 0 = .ok (.iconst 0, 1) := by decide +kernel
theorem dX1_dayOfAll_1 : decode cX1_dayOfAll 1 = .ok (.istore_n 3, 1) := by decide +kernel
theorem dX1_dayOfAll_2 : decode cX1_dayOfAll 2 = .ok (.aload_n 0, 1) := by decide +kernel
theorem dX1_dayOfAll_3 : decode cX1_dayOfAll 3 = .ok (.iload_n 1, 1) := by decide +kernel
theorem dX1_dayOfAll_4 : decode cX1_dayOfAll 4 = .ok (.invokevirtual 129, 3) := by decide +kernel
theorem dX1_dayOfAll_7 : decode cX1_dayOfAll 7 = .ok (.astore 4, 2) := by decide +kernel
theorem dX1_dayOfAll_9 : decode cX1_dayOfAll 9 = .ok (.iconst 0, 1) := by decide +kernel
theorem dX1_dayOfAll_10 : decode cX1_dayOfAll 10 = .ok (.istore 5, 2) := by decide +kernel
theorem dX1_dayOfAll_12 : decode cX1_dayOfAll 12 = .ok (.iload 5, 2) := by decide +kernel
theorem dX1_dayOfAll_14 : decode cX1_dayOfAll 14 = .ok (.aload_n 0, 1) := by decide +kernel
theorem dX1_dayOfAll_15 : decode cX1_dayOfAll 15 = .ok (.getfield 31, 3) := by decide +kernel
theorem dX1_dayOfAll_18 : decode cX1_dayOfAll 18 = .ok (.getfield 149, 3) := by decide +kernel
theorem dX1_dayOfAll_21 : decode cX1_dayOfAll 21 = .ok (.if_icmp .ge 22, 3) := by decide +kernel
theorem dX1_dayOfAll_24 : decode cX1_dayOfAll 24 = .ok (.iload_n 3, 1) := by decide +kernel
theorem dX1_dayOfAll_25 : decode cX1_dayOfAll 25 = .ok (.aload 4, 2) := by decide +kernel
theorem dX1_dayOfAll_27 : decode cX1_dayOfAll 27 = .ok (.iload_n 2, 1) := by decide +kernel
theorem dX1_dayOfAll_28 : decode cX1_dayOfAll 28 = .ok (.iload 5, 2) := by decide +kernel
theorem dX1_dayOfAll_30 : decode cX1_dayOfAll 30 = .ok (.invokestatic 136, 3) := by decide +kernel
theorem dX1_dayOfAll_33 : decode cX1_dayOfAll 33 = .ok (.invokestatic 60, 3) := by decide +kernel
theorem dX1_dayOfAll_36 : decode cX1_dayOfAll 36 = .ok (.istore_n 3, 1) := by decide +kernel
theorem dX1_dayOfAll_37 : decode cX1_dayOfAll 37 = .ok (.iinc 5 1, 3) := by decide +kernel
theorem dX1_dayOfAll_40 : decode cX1_dayOfAll 40 = .ok (.goto (-28), 3) := by decide +kernel
theorem dX1_dayOfAll_43 : decode cX1_dayOfAll 43 = .ok (.iload_n 3, 1) := by decide +kernel
theorem dX1_dayOfAll_44 : decode cX1_dayOfAll 44 = .ok (.iconst 2, 1) := by decide +kernel
theorem dX1_dayOfAll_45 : decode cX1_dayOfAll 45 = .ok (.idiv, 1) := by decide +kernel
theorem dX1_dayOfAll_46 : decode cX1_dayOfAll 46 = .ok (.bipush 28, 2) := by decide +kernel
theorem dX1_dayOfAll_48 : decode cX1_dayOfAll 48 = .ok (.invokestatic 54, 3) := by decide +kernel
theorem dX1_dayOfAll_51 : decode cX1_dayOfAll 51 = .ok (.ireturn, 1) := by decide +kernel
noncomputable def f_X1_dayOfAll_J43 (l3 : Int32) (μ : Mm) : Option Int32 :=
  some (if (28 : Int32) < (l3 / (2 : Int32)) then (28 : Int32) else (l3 / (2 : Int32)))
noncomputable def f_X1_dayOfAll_L12 (a0 : Nat) (l2 : Int32) (l4 : Nat) (μ : Mm) (s12 : Int32 × Int32) : Option ((Int32 × Int32) ⊕ (Int32)) :=
  (gf_P 2 5 a0 μ).bind fun x15 => (gf_I 8 9 x15 μ).bind fun x18 => if x18 ≤ s12.2 then some (.inr s12.1) else (f_X1_momentIn l4 l2 s12.2 μ).bind fun x30 => (some (if s12.1 < x30 then x30 else s12.1)).bind fun v36 => (some (s12.2 + (1 : Int32))).bind fun v37 => some (.inl (v36, v37))
noncomputable def f_X1_dayOfAll (a0 : Nat) (l1 : Int32) (l2 : Int32) (μ : Mm) : Option Int32 :=
  if (mm_K μ a0).1 = 2 then (f_X1_lineOf a0 l1 μ).bind fun x4 => (whl (f_X1_dayOfAll_L12 a0 l2 x4 μ) ((0 : Int32), (0 : Int32))).bind (fun b12 => f_X1_dayOfAll_J43 b12 μ) else none
abbrev Rn_X1_dayOfAll (G : Gv) (Q : Option Value → Mm → Prop) (pc : Nat) (lv : List (Nat × Value)) (st : List Value) (μ : Mm) : Prop := Rn G RX1 cX1_dayOfAll 6 (some .int) "dayOfAll" (rmd 1 0 0) (Zm G 0 0 Q) 0 0 pc lv st μ
set_option maxRecDepth 100000 in
set_option maxHeartbeats 4000000 in
theorem m_X1_dayOfAll {G : Gv} (a0 : Nat) (l1 : Int32) (l2 : Int32) (μ : Mm) {r : Int32} (hx : f_X1_dayOfAll a0 l1 l2 μ = some r) : Mt G yX1_dayOfAll cX1_dayOfAll 6 (some .int) 1 0 0 [.ref a0, .int l1, .int l2] μ (fun v μ' => v = some (.int r) ∧ μ' = μ) := by
  refine Mt.of (by decide) (Nat.le_of_ble_eq_true rfl) ?_
  show Rn_X1_dayOfAll G (fun v μ' => v = some (.int r) ∧ μ' = μ) 0 [(0, .ref a0), (1, .int l1), (2, .int l2)] [] μ
  obtain ⟨_, h⟩ := Sat_ifp (show Sat (f_X1_dayOfAll a0 l1 l2 μ) (fun x => x = r) from ⟨_, hx, rfl⟩)
  have J43 : ∀ (l3_43 : Int32), Sat (f_X1_dayOfAll_J43 l3_43 μ) (fun x => x = r) → Rn_X1_dayOfAll G (fun v μ' => v = some (.int r) ∧ μ' = μ) 43 [(3, .int l3_43)] [] μ := by
    intro l3_43 h
    refine r_iload_n dX1_dayOfAll_43 0 rfl ?_
    refine r_iconst (v := 2) dX1_dayOfAll_44 (by decide) ?_
    refine r_idiv dX1_dayOfAll_45 (by decide) ?_
    refine r_bipush (v := 28) dX1_dayOfAll_46 (by decide) ?_
    refine r_mmin mmin_X1_54 mx_st_min mx_ii mx_co_min (Nat.le_of_ble_eq_true rfl) ⟨by decide, by decide⟩ ⟨by decide, by decide⟩ dX1_dayOfAll_48 ?_
    exact r_ireturn rfl (by rw [← Sat_eq h]; exact ⟨rfl, rfl⟩) dX1_dayOfAll_51
  refine r_iconst (v := 0) dX1_dayOfAll_0 (by decide) ?_
  refine r_istore_n (lv' := [(3, .int (0 : Int32)), (0, .ref a0), (1, .int l1), (2, .int l2)]) dX1_dayOfAll_1 rfl (by decide) rfl ?_
  refine r_aload_n dX1_dayOfAll_2 1 rfl ?_
  refine r_iload_n dX1_dayOfAll_3 2 rfl ?_
  obtain ⟨x4, e4, h⟩ := Sat_bind h
  refine r_cV (t := 2) [.int l1] [] (m_X1_lineOf a0 l1 μ e4) ck_X1_lineOf lk_X1_129 in_X1_lineOf se_X1_lineOf (kd_of e4) ⟨rfl, by decide, by decide⟩ rfl rfl (Nat.le_of_ble_eq_true rfl) ⟨by decide, by decide⟩ ⟨Nat.zero_le _, Nat.zero_le _⟩ dX1_dayOfAll_4 ?_
  refine r_astore (lv' := [(4, .ref x4), (3, .int (0 : Int32)), (0, .ref a0), (1, .int l1), (2, .int l2)]) dX1_dayOfAll_7 (by decide) rfl ?_
  refine r_iconst (v := 0) dX1_dayOfAll_9 (by decide) ?_
  refine r_istore (lv' := [(5, .int (0 : Int32)), (4, .ref x4), (3, .int (0 : Int32)), (0, .ref a0), (1, .int l1), (2, .int l2)]) dX1_dayOfAll_10 (by decide) rfl ?_
  refine r_sub (lv' := [(0, .ref a0), (2, .int l2), (3, .int (0 : Int32)), (4, .ref x4), (5, .int (0 : Int32))]) [3, 5, 2, 1, 0] rfl ?_
  refine whl_K (s0 := (((0 : Int32), (0 : Int32)) : Int32 × Int32)) (RR := fun (s12 : Int32 × Int32) => Rn_X1_dayOfAll G (fun v μ' => v = some (.int r) ∧ μ' = μ) 12 [(0, .ref a0), (2, .int l2), (3, .int s12.1), (4, .ref x4), (5, .int s12.2)] [] μ) ?_ (Sat_bindK h)
  intro s12 K12 hI12 hX12 h
  refine r_iload dX1_dayOfAll_12 4 rfl ?_
  refine r_aload_n dX1_dayOfAll_14 0 rfl ?_
  obtain ⟨x15, e15, h⟩ := Sat_bind h
  refine r_getP fk_X1_31 rfl e15 dX1_dayOfAll_15 ?_
  obtain ⟨x18, e18, h⟩ := Sat_bind h
  refine r_getI fk_X1_149 rfl e18 dX1_dayOfAll_18 ?_
  refine r_icmp_ge 43 dX1_dayOfAll_21 (by decide) (fun c21 => ?_) (fun c21 => ?_)
  · have h := Sat_pos c21 h
    have h := hX12 _ (Sat_some h)
    exact r_sub [2] rfl (J43 s12.1 h)
  · have h := Sat_neg c21 h
    refine r_iload_n dX1_dayOfAll_24 2 rfl ?_
    refine r_aload dX1_dayOfAll_25 3 rfl ?_
    refine r_iload_n dX1_dayOfAll_27 1 rfl ?_
    refine r_iload dX1_dayOfAll_28 4 rfl ?_
    obtain ⟨x30, e30, h⟩ := Sat_bind h
    refine r_cS [.ref x4, .int l2, .int s12.2] [.int s12.1] (m_X1_momentIn x4 l2 s12.2 μ e30) ck_X1_momentIn lk_X1_136 st_X1_momentIn rfl rfl (Nat.le_of_ble_eq_true rfl) ⟨by decide, by decide⟩ ⟨Nat.zero_le _, Nat.zero_le _⟩ dX1_dayOfAll_30 ?_
    refine r_mmax mmax_X1_60 mx_st_max mx_ii mx_co_max (Nat.le_of_ble_eq_true rfl) ⟨by decide, by decide⟩ ⟨by decide, by decide⟩ dX1_dayOfAll_33 ?_
    obtain ⟨v36, e36, h⟩ := Sat_bind h
    refine r_topi (Option.some.inj e36) ?_
    refine r_istore_n (lv' := [(3, .int v36), (0, .ref a0), (2, .int l2), (4, .ref x4), (5, .int s12.2)]) dX1_dayOfAll_36 rfl (by decide) rfl ?_
    obtain ⟨v37, e37, h⟩ := Sat_bind h
    refine r_iinc (j := 4) (v := v37) (lv' := [(5, .int v37), (3, .int v36), (0, .ref a0), (2, .int l2), (4, .ref x4)]) dX1_dayOfAll_37 rfl (iinc_v e37 (by decide)) (by decide) rfl ?_
    refine r_goto 12 dX1_dayOfAll_40 (by decide) ?_
    exact r_sub [2, 3, 1, 4, 0] rfl (hI12 _ (Sat_some h))
theorem dX9_numberOf_0 : decode cX9_numberOf 0 = .ok (.iconst 0, 1) := by decide +kernel
theorem dX9_numberOf_1 : decode cX9_numberOf 1 = .ok (.istore_n 2, 1) := by decide +kernel
theorem dX9_numberOf_2 : decode cX9_numberOf 2 = .ok (.iconst 0, 1) := by decide +kernel
theorem dX9_numberOf_3 : decode cX9_numberOf 3 = .ok (.istore_n 3, 1) := by decide +kernel
theorem dX9_numberOf_4 : decode cX9_numberOf 4 = .ok (.iconst 0, 1) := by decide +kernel
theorem dX9_numberOf_5 : decode cX9_numberOf 5 = .ok (.istore 4, 2) := by decide +kernel
theorem dX9_numberOf_7 : decode cX9_numberOf 7 = .ok (.iload 4, 2) := by decide +kernel
theorem dX9_numberOf_9 : decode cX9_numberOf 9 = .ok (.aload_n 0, 1) := by decide +kernel
theorem dX9_numberOf_10 : decode cX9_numberOf 10 = .ok (.getfield 21, 3) := by decide +kernel
theorem dX9_numberOf_13 : decode cX9_numberOf 13 = .ok (.if_icmp .ge 112, 3) := by decide +kernel
theorem dX9_numberOf_16 : decode cX9_numberOf 16 = .ok (.aload_n 0, 1) := by decide +kernel
theorem dX9_numberOf_17 : decode cX9_numberOf 17 = .ok (.getfield 15, 3) := by decide +kernel
theorem dX9_numberOf_20 : decode cX9_numberOf 20 = .ok (.aload_n 0, 1) := by decide +kernel
theorem dX9_numberOf_21 : decode cX9_numberOf 21 = .ok (.getfield 9, 3) := by decide +kernel
theorem dX9_numberOf_24 : decode cX9_numberOf 24 = .ok (.iload 4, 2) := by decide +kernel
theorem dX9_numberOf_26 : decode cX9_numberOf 26 = .ok (.iaload, 1) := by decide +kernel
theorem dX9_numberOf_27 : decode cX9_numberOf 27 = .ok (.iaload, 1) := by decide +kernel
theorem dX9_numberOf_28 : decode cX9_numberOf 28 = .ok (.iload_n 3, 1) := by decide +kernel
theorem dX9_numberOf_29 : decode cX9_numberOf 29 = .ok (.iconst (-1), 1) := by decide +kernel
theorem dX9_numberOf_30 : decode cX9_numberOf 30 = .ok (.ixor, 1) := by decide +kernel
theorem dX9_numberOf_31 : decode cX9_numberOf 31 = .ok (.iand, 1) := by decide +kernel
theorem dX9_numberOf_32 : decode cX9_numberOf 32 = .ok (.istore 5, 2) := by decide +kernel
theorem dX9_numberOf_34 : decode cX9_numberOf 34 = .ok (.iload_n 1, 1) := by decide +kernel
theorem dX9_numberOf_35 : decode cX9_numberOf 35 = .ok (.aload_n 0, 1) := by decide +kernel
theorem dX9_numberOf_36 : decode cX9_numberOf 36 = .ok (.getfield 9, 3) := by decide +kernel
theorem dX9_numberOf_39 : decode cX9_numberOf 39 = .ok (.iload 4, 2) := by decide +kernel
theorem dX9_numberOf_41 : decode cX9_numberOf 41 = .ok (.iaload, 1) := by decide +kernel
theorem dX9_numberOf_42 : decode cX9_numberOf 42 = .ok (.invokestatic 56, 3) := by decide +kernel
theorem dX9_numberOf_45 : decode cX9_numberOf 45 = .ok (.istore 6, 2) := by decide +kernel
theorem dX9_numberOf_47 : decode cX9_numberOf 47 = .ok (.iload 6, 2) := by decide +kernel
theorem dX9_numberOf_49 : decode cX9_numberOf 49 = .ok (.iconst (-1), 1) := by decide +kernel
theorem dX9_numberOf_50 : decode cX9_numberOf 50 = .ok (.if_icmp .eq 13, 3) := by decide +kernel
theorem dX9_numberOf_53 : decode cX9_numberOf 53 = .ok (.iload 5, 2) := by decide +kernel
theorem dX9_numberOf_55 : decode cX9_numberOf 55 = .ok (.iload 6, 2) := by decide +kernel
theorem dX9_numberOf_57 : decode cX9_numberOf 57 = .ok (.ishr, 1) := by decide +kernel
theorem dX9_numberOf_58 : decode cX9_numberOf 58 = .ok (.iconst 1, 1) := by decide +kernel
theorem dX9_numberOf_59 : decode cX9_numberOf 59 = .ok (.iand, 1) := by decide +kernel
theorem dX9_numberOf_60 : decode cX9_numberOf 60 = .ok (.ifCond .ne 5, 3) := by decide +kernel
theorem dX9_numberOf_63 : decode cX9_numberOf 63 = .ok (.iconst (-1), 1) := by decide +kernel
theorem dX9_numberOf_64 : decode cX9_numberOf 64 = .ok (.ireturn, 1) := by decide +kernel
theorem dX9_numberOf_65 : decode cX9_numberOf 65 = .ok (.iconst 0, 1) := by decide +kernel
theorem dX9_numberOf_66 : decode cX9_numberOf 66 = .ok (.istore 7, 2) := by decide +kernel
theorem dX9_numberOf_68 : decode cX9_numberOf 68 = .ok (.iload 7, 2) := by decide +kernel
theorem dX9_numberOf_70 : decode cX9_numberOf 70 = .ok (.iload 6, 2) := by decide +kernel
theorem dX9_numberOf_72 : decode cX9_numberOf 72 = .ok (.if_icmp .ge 40, 3) := by decide +kernel
theorem dX9_numberOf_75 : decode cX9_numberOf 75 = .ok (.iload 7, 2) := by decide +kernel
theorem dX9_numberOf_77 : decode cX9_numberOf 77 = .ok (.bipush 8, 2) := by decide +kernel
theorem dX9_numberOf_79 : decode cX9_numberOf 79 = .ok (.if_icmp .ge 33, 3) := by decide +kernel
theorem dX9_numberOf_82 : decode cX9_numberOf 82 = .ok (.iload 5, 2) := by decide +kernel
theorem dX9_numberOf_84 : decode cX9_numberOf 84 = .ok (.iload 7, 2) := by decide +kernel
theorem dX9_numberOf_86 : decode cX9_numberOf 86 = .ok (.ishr, 1) := by decide +kernel
theorem dX9_numberOf_87 : decode cX9_numberOf 87 = .ok (.iconst 1, 1) := by decide +kernel
theorem dX9_numberOf_88 : decode cX9_numberOf 88 = .ok (.iand, 1) := by decide +kernel
theorem dX9_numberOf_89 : decode cX9_numberOf 89 = .ok (.ifCond .eq 17, 3) := by decide +kernel
theorem dX9_numberOf_92 : decode cX9_numberOf 92 = .ok (.iload_n 2, 1) := by decide +kernel
theorem dX9_numberOf_93 : decode cX9_numberOf 93 = .ok (.aload_n 0, 1) := by decide +kernel
theorem dX9_numberOf_94 : decode cX9_numberOf 94 = .ok (.getfield 18, 3) := by decide +kernel
theorem dX9_numberOf_97 : decode cX9_numberOf 97 = .ok (.iload_n 3, 1) := by decide +kernel
theorem dX9_numberOf_98 : decode cX9_numberOf 98 = .ok (.iconst 1, 1) := by decide +kernel
theorem dX9_numberOf_99 : decode cX9_numberOf 99 = .ok (.iload 7, 2) := by decide +kernel
theorem dX9_numberOf_101 : decode cX9_numberOf 101 = .ok (.ishl, 1) := by decide +kernel
theorem dX9_numberOf_102 : decode cX9_numberOf 102 = .ok (.ior, 1) := by decide +kernel
theorem dX9_numberOf_103 : decode cX9_numberOf 103 = .ok (.iaload, 1) := by decide +kernel
theorem dX9_numberOf_104 : decode cX9_numberOf 104 = .ok (.iadd, 1) := by decide +kernel
theorem dX9_numberOf_105 : decode cX9_numberOf 105 = .ok (.istore_n 2, 1) := by decide +kernel
theorem dX9_numberOf_106 : decode cX9_numberOf 106 = .ok (.iinc 7 1, 3) := by decide +kernel
theorem dX9_numberOf_109 : decode cX9_numberOf 109 = .ok (.goto (-41), 3) := by decide +kernel
theorem dX9_numberOf_112 : decode cX9_numberOf 112 = .ok (.iload_n 3, 1) := by decide +kernel
theorem dX9_numberOf_113 : decode cX9_numberOf 113 = .ok (.iconst 1, 1) := by decide +kernel
theorem dX9_numberOf_114 : decode cX9_numberOf 114 = .ok (.iload 6, 2) := by decide +kernel
theorem dX9_numberOf_116 : decode cX9_numberOf 116 = .ok (.ishl, 1) := by decide +kernel
theorem dX9_numberOf_117 : decode cX9_numberOf 117 = .ok (.ior, 1) := by decide +kernel
theorem dX9_numberOf_118 : decode cX9_numberOf 118 = .ok (.istore_n 3, 1) := by decide +kernel
theorem dX9_numberOf_119 : decode cX9_numberOf 119 = .ok (.iinc 4 1, 3) := by decide +kernel
theorem dX9_numberOf_122 : decode cX9_numberOf 122 = .ok (.goto (-115), 3) := by decide +kernel
theorem dX9_numberOf_125 : decode cX9_numberOf 125 = .ok (.iload_n 2, 1) := by decide +kernel
theorem dX9_numberOf_126 : decode cX9_numberOf 126 = .ok (.ireturn, 1) := by decide +kernel
noncomputable def f_X9_numberOf_J112 (a0 : Nat) (l1 : Int32) (l2 : Int32) (l3 : Int32) (l4 : Int32) (l6 : Int32) (μ : Mm) : Option ((Int32 × Int32 × Int32) ⊕ ((Unit) ⊕ (Int32))) :=
  (some (l3 ||| ((1 : Int32) <<< (l6 &&& 31)))).bind fun v118 => (some (l4 + (1 : Int32))).bind fun v119 => some (.inl (l2, v118, v119))
noncomputable def f_X9_numberOf_J106 (a0 : Nat) (l1 : Int32) (l2 : Int32) (l3 : Int32) (l4 : Int32) (l5 : Int32) (l6 : Int32) (l7 : Int32) (μ : Mm) : Option ((Int32 × Int32) ⊕ (Int32)) :=
  (some (l7 + (1 : Int32))).bind fun v106 => some (.inl (l2, v106))
noncomputable def f_X9_numberOf_L68 (a0 : Nat) (l1 : Int32) (l3 : Int32) (l4 : Int32) (l5 : Int32) (l6 : Int32) (μ : Mm) (s68 : Int32 × Int32) : Option ((Int32 × Int32) ⊕ (Int32)) :=
  if l6 ≤ s68.2 then some (.inr s68.1) else if (8 : Int32) ≤ s68.2 then some (.inr s68.1) else if ((l5 >>> (s68.2 &&& 31)) &&& (1 : Int32)) = 0 then f_X9_numberOf_J106 a0 l1 s68.1 l3 l4 l5 l6 s68.2 μ else (gf_P 10 2 a0 μ).bind fun x94 => (ga_I x94 (l3 ||| ((1 : Int32) <<< (s68.2 &&& 31))) μ).bind fun x103 => (some (s68.1 + x103)).bind fun v105 => f_X9_numberOf_J106 a0 l1 v105 l3 l4 l5 l6 s68.2 μ
noncomputable def f_X9_numberOf_L7 (a0 : Nat) (l1 : Int32) (μ : Mm) (s7 : Int32 × Int32 × Int32) : Option ((Int32 × Int32 × Int32) ⊕ ((Unit) ⊕ (Int32))) :=
  (gf_I 10 3 a0 μ).bind fun x10 => if x10 ≤ s7.2.2 then some (.inr (.inr s7.1)) else (gf_P 10 1 a0 μ).bind fun x17 => (gf_P 10 0 a0 μ).bind fun x21 => (ga_I x21 s7.2.2 μ).bind fun x26 => (ga_I x17 x26 μ).bind fun x27 => (some (x27 &&& (s7.2.1 ^^^ (-1 : Int32)))).bind fun v32 => (gf_P 10 0 a0 μ).bind fun x36 => (ga_I x36 s7.2.2 μ).bind fun x41 => (f_X9_dreamOf l1 x41 μ).bind fun x42 => if x42 = (-1 : Int32) then some (.inr (.inl ())) else if ((v32 >>> (x42 &&& 31)) &&& (1 : Int32)) = 0 then some (.inr (.inl ())) else (whl (f_X9_numberOf_L68 a0 l1 s7.2.1 s7.2.2 v32 x42 μ) (s7.1, (0 : Int32))).bind (fun b68 => f_X9_numberOf_J112 a0 l1 b68 s7.2.1 s7.2.2 x42 μ)
noncomputable def f_X9_numberOf (a0 : Nat) (l1 : Int32) (μ : Mm) : Option Int32 :=
  if (mm_K μ a0).1 = 10 then (whl (f_X9_numberOf_L7 a0 l1 μ) ((0 : Int32), (0 : Int32), (0 : Int32))).bind (sm (fun b7 => some (-1 : Int32)) (fun b7 => some b7)) else none
abbrev Rn_X9_numberOf (G : Gv) (Q : Option Value → Mm → Prop) (pc : Nat) (lv : List (Nat × Value)) (st : List Value) (μ : Mm) : Prop := Rn G RX9 cX9_numberOf 8 (some .int) "numberOf" (rmd 1 0 0) (Zm G 0 0 Q) 0 0 pc lv st μ
set_option maxRecDepth 100000 in
set_option maxHeartbeats 4000000 in
theorem m_X9_numberOf {G : Gv} (a0 : Nat) (l1 : Int32) (μ : Mm) {r : Int32} (hx : f_X9_numberOf a0 l1 μ = some r) : Mt G yX9_numberOf cX9_numberOf 8 (some .int) 1 0 0 [.ref a0, .int l1] μ (fun v μ' => v = some (.int r) ∧ μ' = μ) := by
  refine Mt.of (by decide) (Nat.le_of_ble_eq_true rfl) ?_
  show Rn_X9_numberOf G (fun v μ' => v = some (.int r) ∧ μ' = μ) 0 [(0, .ref a0), (1, .int l1)] [] μ
  obtain ⟨_, h⟩ := Sat_ifp (show Sat (f_X9_numberOf a0 l1 μ) (fun x => x = r) from ⟨_, hx, rfl⟩)
  refine r_iconst (v := 0) dX9_numberOf_0 (by decide) ?_
  refine r_istore_n (lv' := [(2, .int (0 : Int32)), (0, .ref a0), (1, .int l1)]) dX9_numberOf_1 rfl (by decide) rfl ?_
  refine r_iconst (v := 0) dX9_numberOf_2 (by decide) ?_
  refine r_istore_n (lv' := [(3, .int (0 : Int32)), (2, .int (0 : Int32)), (0, .ref a0), (1, .int l1)]) dX9_numberOf_3 rfl (by decide) rfl ?_
  refine r_iconst (v := 0) dX9_numberOf_4 (by decide) ?_
  refine r_istore (lv' := [(4, .int (0 : Int32)), (3, .int (0 : Int32)), (2, .int (0 : Int32)), (0, .ref a0), (1, .int l1)]) dX9_numberOf_5 (by decide) rfl ?_
  refine r_sub (lv' := [(0, .ref a0), (1, .int l1), (2, .int (0 : Int32)), (3, .int (0 : Int32)), (4, .int (0 : Int32))]) [3, 4, 2, 1, 0] rfl ?_
  refine whl_K (s0 := (((0 : Int32), (0 : Int32), (0 : Int32)) : Int32 × Int32 × Int32)) (RR := fun (s7 : Int32 × Int32 × Int32) => Rn_X9_numberOf G (fun v μ' => v = some (.int r) ∧ μ' = μ) 7 [(0, .ref a0), (1, .int l1), (2, .int s7.1), (3, .int s7.2.1), (4, .int s7.2.2)] [] μ) ?_ (Sat_bindK h)
  intro s7 K7 hI7 hX7 h
  have J112 : ∀ (l2_112 : Int32) (l3_112 : Int32) (l4_112 : Int32) (l6_112 : Int32), Sat (f_X9_numberOf_J112 a0 l1 l2_112 l3_112 l4_112 l6_112 μ) K7 → Rn_X9_numberOf G (fun v μ' => v = some (.int r) ∧ μ' = μ) 112 [(0, .ref a0), (1, .int l1), (2, .int l2_112), (3, .int l3_112), (4, .int l4_112), (6, .int l6_112)] [] μ := by
    intro l2_112 l3_112 l4_112 l6_112 h
    refine r_iload_n dX9_numberOf_112 3 rfl ?_
    refine r_iconst (v := 1) dX9_numberOf_113 (by decide) ?_
    refine r_iload dX9_numberOf_114 5 rfl ?_
    refine r_ishl dX9_numberOf_116 ?_
    refine r_ior dX9_numberOf_117 ?_
    obtain ⟨v118, e118, h⟩ := Sat_bind h
    refine r_topi (Option.some.inj e118) ?_
    refine r_istore_n (lv' := [(3, .int v118), (0, .ref a0), (1, .int l1), (2, .int l2_112), (4, .int l4_112), (6, .int l6_112)]) dX9_numberOf_118 rfl (by decide) rfl ?_
    obtain ⟨v119, e119, h⟩ := Sat_bind h
    refine r_iinc (j := 4) (v := v119) (lv' := [(4, .int v119), (3, .int v118), (0, .ref a0), (1, .int l1), (2, .int l2_112), (6, .int l6_112)]) dX9_numberOf_119 rfl (iinc_v e119 (by decide)) (by decide) rfl ?_
    refine r_goto 7 dX9_numberOf_122 (by decide) ?_
    exact r_sub [2, 3, 4, 1, 0] rfl (hI7 _ (Sat_some h))
  refine r_iload dX9_numberOf_7 4 rfl ?_
  refine r_aload_n dX9_numberOf_9 0 rfl ?_
  obtain ⟨x10, e10, h⟩ := Sat_bind h
  refine r_getI fk_X9_21 rfl e10 dX9_numberOf_10 ?_
  refine r_icmp_ge 125 dX9_numberOf_13 (by decide) (fun c13 => ?_) (fun c13 => ?_)
  · have h := Sat_pos c13 h
    have h := hX7 _ (Sat_some h)
    refine r_iload_n dX9_numberOf_125 2 rfl ?_
    exact r_ireturn rfl (by rw [← Sat_eq h]; exact ⟨rfl, rfl⟩) dX9_numberOf_126
  · have h := Sat_neg c13 h
    refine r_aload_n dX9_numberOf_16 0 rfl ?_
    obtain ⟨x17, e17, h⟩ := Sat_bind h
    refine r_getP fk_X9_15 rfl e17 dX9_numberOf_17 ?_
    refine r_aload_n dX9_numberOf_20 0 rfl ?_
    obtain ⟨x21, e21, h⟩ := Sat_bind h
    refine r_getP fk_X9_9 rfl e21 dX9_numberOf_21 ?_
    refine r_iload dX9_numberOf_24 4 rfl ?_
    obtain ⟨x26, e26, h⟩ := Sat_bind h
    refine r_iaload e26 dX9_numberOf_26 ?_
    obtain ⟨x27, e27, h⟩ := Sat_bind h
    refine r_iaload e27 dX9_numberOf_27 ?_
    refine r_iload_n dX9_numberOf_28 3 rfl ?_
    refine r_iconst (v := -1) dX9_numberOf_29 (by decide) ?_
    refine r_ixor dX9_numberOf_30 ?_
    refine r_iand dX9_numberOf_31 ?_
    obtain ⟨v32, e32, h⟩ := Sat_bind h
    refine r_topi (Option.some.inj e32) ?_
    refine r_istore (lv' := [(5, .int v32), (0, .ref a0), (1, .int l1), (2, .int s7.1), (3, .int s7.2.1), (4, .int s7.2.2)]) dX9_numberOf_32 (by decide) rfl ?_
    refine r_iload_n dX9_numberOf_34 2 rfl ?_
    refine r_aload_n dX9_numberOf_35 1 rfl ?_
    obtain ⟨x36, e36, h⟩ := Sat_bind h
    refine r_getP fk_X9_9 rfl e36 dX9_numberOf_36 ?_
    refine r_iload dX9_numberOf_39 5 rfl ?_
    obtain ⟨x41, e41, h⟩ := Sat_bind h
    refine r_iaload e41 dX9_numberOf_41 ?_
    obtain ⟨x42, e42, h⟩ := Sat_bind h
    refine r_cS [.int l1, .int x41] [] (m_X9_dreamOf l1 x41 μ e42) ck_X9_dreamOf lk_X9_56 st_X9_dreamOf rfl rfl (Nat.le_of_ble_eq_true rfl) ⟨by decide, by decide⟩ ⟨Nat.zero_le _, Nat.zero_le _⟩ dX9_numberOf_42 ?_
    refine r_istore (lv' := [(6, .int x42), (5, .int v32), (0, .ref a0), (1, .int l1), (2, .int s7.1), (3, .int s7.2.1), (4, .int s7.2.2)]) dX9_numberOf_45 (by decide) rfl ?_
    refine r_iload dX9_numberOf_47 0 rfl ?_
    refine r_iconst (v := -1) dX9_numberOf_49 (by decide) ?_
    refine r_icmp_eq 63 dX9_numberOf_50 (by decide) (fun c50 => ?_) (fun c50 => ?_)
    · have h := Sat_pos c50 h
      have h := hX7 _ (Sat_some h)
      refine r_iconst (v := -1) dX9_numberOf_63 (by decide) ?_
      exact r_ireturn rfl (by rw [← Sat_eq h]; exact ⟨rfl, rfl⟩) dX9_numberOf_64
    · have h := Sat_neg c50 h
      refine r_iload dX9_numberOf_53 1 rfl ?_
      refine r_iload dX9_numberOf_55 0 rfl ?_
      refine r_ishr dX9_numberOf_57 ?_
      refine r_iconst (v := 1) dX9_numberOf_58 (by decide) ?_
      refine r_iand dX9_numberOf_59 ?_
      refine r_if_ne 65 dX9_numberOf_60 (by decide) (fun c60 => ?_) (fun c60 => ?_)
      · have h := Sat_neg c60 h
        refine r_iconst (v := 0) dX9_numberOf_65 (by decide) ?_
        refine r_istore (lv' := [(7, .int (0 : Int32)), (6, .int x42), (5, .int v32), (0, .ref a0), (1, .int l1), (2, .int s7.1), (3, .int s7.2.1), (4, .int s7.2.2)]) dX9_numberOf_66 (by decide) rfl ?_
        refine r_sub (lv' := [(0, .ref a0), (1, .int l1), (2, .int s7.1), (3, .int s7.2.1), (4, .int s7.2.2), (5, .int v32), (6, .int x42), (7, .int (0 : Int32))]) [3, 4, 5, 6, 7, 2, 1, 0] rfl ?_
        refine whl_K (s0 := ((s7.1, (0 : Int32)) : Int32 × Int32)) (RR := fun (s68 : Int32 × Int32) => Rn_X9_numberOf G (fun v μ' => v = some (.int r) ∧ μ' = μ) 68 [(0, .ref a0), (1, .int l1), (2, .int s68.1), (3, .int s7.2.1), (4, .int s7.2.2), (5, .int v32), (6, .int x42), (7, .int s68.2)] [] μ) ?_ (Sat_bindK h)
        intro s68 K68 hI68 hX68 h
        have J106 : ∀ (l2_106 : Int32) (l7_106 : Int32), Sat (f_X9_numberOf_J106 a0 l1 l2_106 s7.2.1 s7.2.2 v32 x42 l7_106 μ) K68 → Rn_X9_numberOf G (fun v μ' => v = some (.int r) ∧ μ' = μ) 106 [(0, .ref a0), (1, .int l1), (2, .int l2_106), (3, .int s7.2.1), (4, .int s7.2.2), (5, .int v32), (6, .int x42), (7, .int l7_106)] [] μ := by
          intro l2_106 l7_106 h
          obtain ⟨v106, e106, h⟩ := Sat_bind h
          refine r_iinc (j := 7) (v := v106) (lv' := [(7, .int v106), (0, .ref a0), (1, .int l1), (2, .int l2_106), (3, .int s7.2.1), (4, .int s7.2.2), (5, .int v32), (6, .int x42)]) dX9_numberOf_106 rfl (iinc_v e106 (by decide)) (by decide) rfl ?_
          refine r_goto 68 dX9_numberOf_109 (by decide) ?_
          exact r_sub [1, 2, 3, 4, 5, 6, 7, 0] rfl (hI68 _ (Sat_some h))
        refine r_iload dX9_numberOf_68 7 rfl ?_
        refine r_iload dX9_numberOf_70 6 rfl ?_
        refine r_icmp_ge 112 dX9_numberOf_72 (by decide) (fun c72 => ?_) (fun c72 => ?_)
        · have h := Sat_pos c72 h
          have h := hX68 _ (Sat_some h)
          exact r_sub [0, 1, 2, 3, 4, 6] rfl (J112 s68.1 s7.2.1 s7.2.2 x42 h)
        · have h := Sat_neg c72 h
          refine r_iload dX9_numberOf_75 7 rfl ?_
          refine r_bipush (v := 8) dX9_numberOf_77 (by decide) ?_
          refine r_icmp_ge 112 dX9_numberOf_79 (by decide) (fun c79 => ?_) (fun c79 => ?_)
          · have h := Sat_pos c79 h
            have h := hX68 _ (Sat_some h)
            exact r_sub [0, 1, 2, 3, 4, 6] rfl (J112 s68.1 s7.2.1 s7.2.2 x42 h)
          · have h := Sat_neg c79 h
            refine r_iload dX9_numberOf_82 5 rfl ?_
            refine r_iload dX9_numberOf_84 7 rfl ?_
            refine r_ishr dX9_numberOf_86 ?_
            refine r_iconst (v := 1) dX9_numberOf_87 (by decide) ?_
            refine r_iand dX9_numberOf_88 ?_
            refine r_if_eq 106 dX9_numberOf_89 (by decide) (fun c89 => ?_) (fun c89 => ?_)
            · have h := Sat_pos c89 h
              exact r_sub [0, 1, 2, 3, 4, 5, 6, 7] rfl (J106 s68.1 s68.2 h)
            · have h := Sat_neg c89 h
              refine r_iload_n dX9_numberOf_92 2 rfl ?_
              refine r_aload_n dX9_numberOf_93 0 rfl ?_
              obtain ⟨x94, e94, h⟩ := Sat_bind h
              refine r_getP fk_X9_18 rfl e94 dX9_numberOf_94 ?_
              refine r_iload_n dX9_numberOf_97 3 rfl ?_
              refine r_iconst (v := 1) dX9_numberOf_98 (by decide) ?_
              refine r_iload dX9_numberOf_99 7 rfl ?_
              refine r_ishl dX9_numberOf_101 ?_
              refine r_ior dX9_numberOf_102 ?_
              obtain ⟨x103, e103, h⟩ := Sat_bind h
              refine r_iaload e103 dX9_numberOf_103 ?_
              refine r_iadd dX9_numberOf_104 ?_
              obtain ⟨v105, e105, h⟩ := Sat_bind h
              refine r_topi (Option.some.inj e105) ?_
              refine r_istore_n (lv' := [(2, .int v105), (0, .ref a0), (1, .int l1), (3, .int s7.2.1), (4, .int s7.2.2), (5, .int v32), (6, .int x42), (7, .int s68.2)]) dX9_numberOf_105 rfl (by decide) rfl ?_
              exact r_sub [1, 2, 0, 3, 4, 5, 6, 7] rfl (J106 v105 s68.2 h)
      · have h := Sat_pos c60 h
        have h := hX7 _ (Sat_some h)
        refine r_iconst (v := -1) dX9_numberOf_63 (by decide) ?_
        exact r_ireturn rfl (by rw [← Sat_eq h]; exact ⟨rfl, rfl⟩) dX9_numberOf_64
theorem dX10_marry_0 : decode cX10_marry 0 = .ok (.aload_n 0, 1) := by decide +kernel
theorem dX10_marry_1 : decode cX10_marry 1 = .ok (.getfield 63, 3) := by decide +kernel
theorem dX10_marry_4 : decode cX10_marry 4 = .ok (.iload_n 1, 1) := by decide +kernel
theorem dX10_marry_5 : decode cX10_marry 5 = .ok (.invokevirtual 178, 3) := by decide +kernel
theorem dX10_marry_8 : decode cX10_marry 8 = .ok (.ifCond .eq 19, 3) := by decide +kernel
theorem dX10_marry_11 : decode cX10_marry 11 = .ok (.aload_n 0, 1) := by decide +kernel
theorem dX10_marry_12 : decode cX10_marry 12 = .ok (.getfield 63, 3) := by decide +kernel
theorem dX10_marry_15 : decode cX10_marry 15 = .ok (.iload_n 2, 1) := by decide +kernel
theorem dX10_marry_16 : decode cX10_marry 16 = .ok (.invokevirtual 178, 3) := by decide +kernel
theorem dX10_marry_19 : decode cX10_marry 19 = .ok (.ifCond .eq 8, 3) := by decide +kernel
theorem dX10_marry_22 : decode cX10_marry 22 = .ok (.iload_n 1, 1) := by decide +kernel
theorem dX10_marry_23 : decode cX10_marry 23 = .ok (.iload_n 2, 1) := by decide +kernel
theorem dX10_marry_24 : decode cX10_marry 24 = .ok (.if_icmp .ne 6, 3) := by decide +kernel
theorem dX10_marry_27 : decode cX10_marry 27 = .ok (.bipush (-2), 2) := by decide +kernel
theorem dX10_marry_29 : decode cX10_marry 29 = .ok (.ireturn, 1) := by decide +kernel
theorem dX10_marry_30 : decode cX10_marry 30 = .ok (.aload_n 0, 1) := by decide +kernel
theorem dX10_marry_31 : decode cX10_marry 31 = .ok (.getfield 63, 3) := by decide +kernel
theorem dX10_marry_34 : decode cX10_marry 34 = .ok (.iload_n 1, 1) := by decide +kernel
theorem dX10_marry_35 : decode cX10_marry 35 = .ok (.invokevirtual 182, 3) := by decide +kernel
theorem dX10_marry_38 : decode cX10_marry 38 = .ok (.ifCond .ne 14, 3) := by decide +kernel
theorem dX10_marry_41 : decode cX10_marry 41 = .ok (.aload_n 0, 1) := by decide +kernel
theorem dX10_marry_42 : decode cX10_marry 42 = .ok (.getfield 63, 3) := by decide +kernel
theorem dX10_marry_45 : decode cX10_marry 45 = .ok (.iload_n 2, 1) := by decide +kernel
theorem dX10_marry_46 : decode cX10_marry 46 = .ok (.invokevirtual 182, 3) := by decide +kernel
theorem dX10_marry_49 : decode cX10_marry 49 = .ok (.ifCond .eq 6, 3) := by decide +kernel
theorem dX10_marry_52 : decode cX10_marry 52 = .ok (.bipush (-2), 2) := by decide +kernel
theorem dX10_marry_54 : decode cX10_marry 54 = .ok (.ireturn, 1) := by decide +kernel
theorem dX10_marry_55 : decode cX10_marry 55 = .ok (.aload_n 0, 1) := by decide +kernel
theorem dX10_marry_56 : decode cX10_marry 56 = .ok (.getfield 116, 3) := by decide +kernel
theorem dX10_marry_59 : decode cX10_marry 59 = .ok (.iload_n 1, 1) := by decide +kernel
theorem dX10_marry_60 : decode cX10_marry 60 = .ok (.aload_n 0, 1) := by decide +kernel
theorem dX10_marry_61 : decode cX10_marry 61 = .ok (.getfield 116, 3) := by decide +kernel
theorem dX10_marry_64 : decode cX10_marry 64 = .ok (.iload_n 2, 1) := by decide +kernel
theorem dX10_marry_65 : decode cX10_marry 65 = .ok (.invokestatic 199, 3) := by decide +kernel
theorem dX10_marry_68 : decode cX10_marry 68 = .ok (.invokestatic 207, 3) := by decide +kernel
theorem dX10_marry_71 : decode cX10_marry 71 = .ok (.istore_n 3, 1) := by decide +kernel
theorem dX10_marry_72 : decode cX10_marry 72 = .ok (.iload_n 3, 1) := by decide +kernel
theorem dX10_marry_73 : decode cX10_marry 73 = .ok (.iload_n 2, 1) := by decide +kernel
theorem dX10_marry_74 : decode cX10_marry 74 = .ok (.aload_n 0, 1) := by decide +kernel
theorem dX10_marry_75 : decode cX10_marry 75 = .ok (.getfield 116, 3) := by decide +kernel
theorem dX10_marry_78 : decode cX10_marry 78 = .ok (.iload_n 1, 1) := by decide +kernel
theorem dX10_marry_79 : decode cX10_marry 79 = .ok (.invokestatic 199, 3) := by decide +kernel
theorem dX10_marry_82 : decode cX10_marry 82 = .ok (.invokestatic 207, 3) := by decide +kernel
theorem dX10_marry_85 : decode cX10_marry 85 = .ok (.istore_n 3, 1) := by decide +kernel
theorem dX10_marry_86 : decode cX10_marry 86 = .ok (.aload_n 0, 1) := by decide +kernel
theorem dX10_marry_87 : decode cX10_marry 87 = .ok (.getfield 63, 3) := by decide +kernel
theorem dX10_marry_90 : decode cX10_marry 90 = .ok (.getfield 100, 3) := by decide +kernel
theorem dX10_marry_93 : decode cX10_marry 93 = .ok (.iload_n 3, 1) := by decide +kernel
theorem dX10_marry_94 : decode cX10_marry 94 = .ok (.invokevirtual 211, 3) := by decide +kernel
theorem dX10_marry_97 : decode cX10_marry 97 = .ok (.ireturn, 1) := by decide +kernel
noncomputable def f_X10_marry (a0 : Nat) (l1 : Int32) (l2 : Int32) (μ : Mm) : Option Int32 :=
  if (mm_K μ a0).1 = 11 then (gf_P 11 13 a0 μ).bind fun x1 => (f_X7_isPerson x1 l1 μ).bind fun x5 => if x5 = 0 then some (-2 : Int32) else (gf_P 11 13 a0 μ).bind fun x12 => (f_X7_isPerson x12 l2 μ).bind fun x16 => if x16 = 0 then some (-2 : Int32) else if l1 = l2 then some (-2 : Int32) else (gf_P 11 13 a0 μ).bind fun x31 => (f_X7_isAlone x31 l1 μ).bind fun x35 => if x35 = 0 then (gf_P 11 13 a0 μ).bind fun x42 => (f_X7_isAlone x42 l2 μ).bind fun x46 => if x46 = 0 then (gf_I 11 15 a0 μ).bind fun x56 => (gf_I 11 15 a0 μ).bind fun x61 => (f_X9_dreamOf x61 l2 μ).bind fun x65 => (f_X9_withDream x56 l1 x65 μ).bind fun x68 => (gf_I 11 15 a0 μ).bind fun x75 => (f_X9_dreamOf x75 l1 μ).bind fun x79 => (f_X9_withDream x68 l2 x79 μ).bind fun x82 => (gf_P 11 13 a0 μ).bind fun x87 => (gf_P 8 8 x87 μ).bind fun x90 => (f_X9_numberOf x90 x82 μ).bind fun x94 => some x94 else some (-2 : Int32) else some (-2 : Int32) else none
abbrev Rn_X10_marry (G : Gv) (Q : Option Value → Mm → Prop) (pc : Nat) (lv : List (Nat × Value)) (st : List Value) (μ : Mm) : Prop := Rn G RX10 cX10_marry 4 (some .int) "marry" (rmd 2 0 0) (Zm G 0 0 Q) 0 0 pc lv st μ
set_option maxRecDepth 100000 in
set_option maxHeartbeats 4000000 in
theorem m_X10_marry {G : Gv} (a0 : Nat) (l1 : Int32) (l2 : Int32) (μ : Mm) {r : Int32} (hx : f_X10_marry a0 l1 l2 μ = some r) : Mt G yX10_marry cX10_marry 4 (some .int) 2 0 0 [.ref a0, .int l1, .int l2] μ (fun v μ' => v = some (.int r) ∧ μ' = μ) := by
  refine Mt.of (by decide) (Nat.le_of_ble_eq_true rfl) ?_
  show Rn_X10_marry G (fun v μ' => v = some (.int r) ∧ μ' = μ) 0 [(0, .ref a0), (1, .int l1), (2, .int l2)] [] μ
  obtain ⟨_, h⟩ := Sat_ifp (show Sat (f_X10_marry a0 l1 l2 μ) (fun x => x = r) from ⟨_, hx, rfl⟩)
  refine r_aload_n dX10_marry_0 0 rfl ?_
  obtain ⟨x1, e1, h⟩ := Sat_bind h
  refine r_getP fk_X10_63 rfl e1 dX10_marry_1 ?_
  refine r_iload_n dX10_marry_4 1 rfl ?_
  obtain ⟨x5, e5, h⟩ := Sat_bind h
  refine r_cV (t := 8) [.int l1] [] (m_X7_isPerson x1 l1 μ e5) ck_X7_isPerson lk_X10_178 in_X7_isPerson se_X7_isPerson (kd_of e5) ⟨rfl, by decide, by decide⟩ rfl rfl (Nat.le_of_ble_eq_true rfl) ⟨by decide, by decide⟩ ⟨Nat.zero_le _, Nat.zero_le _⟩ dX10_marry_5 ?_
  refine r_if_eq 27 dX10_marry_8 (by decide) (fun c8 => ?_) (fun c8 => ?_)
  · have h := Sat_pos c8 h
    refine r_bipush (v := -2) dX10_marry_27 (by decide) ?_
    exact r_ireturn rfl (by rw [← Sat_eq h]; exact ⟨rfl, rfl⟩) dX10_marry_29
  · have h := Sat_neg c8 h
    refine r_aload_n dX10_marry_11 0 rfl ?_
    obtain ⟨x12, e12, h⟩ := Sat_bind h
    refine r_getP fk_X10_63 rfl e12 dX10_marry_12 ?_
    refine r_iload_n dX10_marry_15 2 rfl ?_
    obtain ⟨x16, e16, h⟩ := Sat_bind h
    refine r_cV (t := 8) [.int l2] [] (m_X7_isPerson x12 l2 μ e16) ck_X7_isPerson lk_X10_178 in_X7_isPerson se_X7_isPerson (kd_of e16) ⟨rfl, by decide, by decide⟩ rfl rfl (Nat.le_of_ble_eq_true rfl) ⟨by decide, by decide⟩ ⟨Nat.zero_le _, Nat.zero_le _⟩ dX10_marry_16 ?_
    refine r_if_eq 27 dX10_marry_19 (by decide) (fun c19 => ?_) (fun c19 => ?_)
    · have h := Sat_pos c19 h
      refine r_bipush (v := -2) dX10_marry_27 (by decide) ?_
      exact r_ireturn rfl (by rw [← Sat_eq h]; exact ⟨rfl, rfl⟩) dX10_marry_29
    · have h := Sat_neg c19 h
      refine r_iload_n dX10_marry_22 1 rfl ?_
      refine r_iload_n dX10_marry_23 2 rfl ?_
      refine r_icmp_ne 30 dX10_marry_24 (by decide) (fun c24 => ?_) (fun c24 => ?_)
      · have h := Sat_neg c24 h
        refine r_aload_n dX10_marry_30 0 rfl ?_
        obtain ⟨x31, e31, h⟩ := Sat_bind h
        refine r_getP fk_X10_63 rfl e31 dX10_marry_31 ?_
        refine r_iload_n dX10_marry_34 1 rfl ?_
        obtain ⟨x35, e35, h⟩ := Sat_bind h
        refine r_cV (t := 8) [.int l1] [] (m_X7_isAlone x31 l1 μ e35) ck_X7_isAlone lk_X10_182 in_X7_isAlone se_X7_isAlone (kd_of e35) ⟨rfl, by decide, by decide⟩ rfl rfl (Nat.le_of_ble_eq_true rfl) ⟨by decide, by decide⟩ ⟨Nat.zero_le _, Nat.zero_le _⟩ dX10_marry_35 ?_
        refine r_if_ne 52 dX10_marry_38 (by decide) (fun c38 => ?_) (fun c38 => ?_)
        · have h := Sat_neg c38 h
          refine r_bipush (v := -2) dX10_marry_52 (by decide) ?_
          exact r_ireturn rfl (by rw [← Sat_eq h]; exact ⟨rfl, rfl⟩) dX10_marry_54
        · have h := Sat_pos c38 h
          refine r_aload_n dX10_marry_41 0 rfl ?_
          obtain ⟨x42, e42, h⟩ := Sat_bind h
          refine r_getP fk_X10_63 rfl e42 dX10_marry_42 ?_
          refine r_iload_n dX10_marry_45 2 rfl ?_
          obtain ⟨x46, e46, h⟩ := Sat_bind h
          refine r_cV (t := 8) [.int l2] [] (m_X7_isAlone x42 l2 μ e46) ck_X7_isAlone lk_X10_182 in_X7_isAlone se_X7_isAlone (kd_of e46) ⟨rfl, by decide, by decide⟩ rfl rfl (Nat.le_of_ble_eq_true rfl) ⟨by decide, by decide⟩ ⟨Nat.zero_le _, Nat.zero_le _⟩ dX10_marry_46 ?_
          refine r_if_eq 55 dX10_marry_49 (by decide) (fun c49 => ?_) (fun c49 => ?_)
          · have h := Sat_pos c49 h
            refine r_aload_n dX10_marry_55 0 rfl ?_
            obtain ⟨x56, e56, h⟩ := Sat_bind h
            refine r_getI fk_X10_116 rfl e56 dX10_marry_56 ?_
            refine r_iload_n dX10_marry_59 1 rfl ?_
            refine r_aload_n dX10_marry_60 0 rfl ?_
            obtain ⟨x61, e61, h⟩ := Sat_bind h
            refine r_getI fk_X10_116 rfl e61 dX10_marry_61 ?_
            refine r_iload_n dX10_marry_64 2 rfl ?_
            obtain ⟨x65, e65, h⟩ := Sat_bind h
            refine r_cS [.int x61, .int l2] [.int l1, .int x56] (m_X9_dreamOf x61 l2 μ e65) ck_X9_dreamOf lk_X10_199 st_X9_dreamOf rfl rfl (Nat.le_of_ble_eq_true rfl) ⟨by decide, by decide⟩ ⟨Nat.zero_le _, Nat.zero_le _⟩ dX10_marry_65 ?_
            obtain ⟨x68, e68, h⟩ := Sat_bind h
            refine r_cS [.int x56, .int l1, .int x65] [] (m_X9_withDream x56 l1 x65 μ e68) ck_X9_withDream lk_X10_207 st_X9_withDream rfl rfl (Nat.le_of_ble_eq_true rfl) ⟨by decide, by decide⟩ ⟨Nat.zero_le _, Nat.zero_le _⟩ dX10_marry_68 ?_
            refine r_istore_n (lv' := [(3, .int x68), (0, .ref a0), (1, .int l1), (2, .int l2)]) dX10_marry_71 rfl (by decide) rfl ?_
            refine r_iload_n dX10_marry_72 0 rfl ?_
            refine r_iload_n dX10_marry_73 3 rfl ?_
            refine r_aload_n dX10_marry_74 1 rfl ?_
            obtain ⟨x75, e75, h⟩ := Sat_bind h
            refine r_getI fk_X10_116 rfl e75 dX10_marry_75 ?_
            refine r_iload_n dX10_marry_78 2 rfl ?_
            obtain ⟨x79, e79, h⟩ := Sat_bind h
            refine r_cS [.int x75, .int l1] [.int l2, .int x68] (m_X9_dreamOf x75 l1 μ e79) ck_X9_dreamOf lk_X10_199 st_X9_dreamOf rfl rfl (Nat.le_of_ble_eq_true rfl) ⟨by decide, by decide⟩ ⟨Nat.zero_le _, Nat.zero_le _⟩ dX10_marry_79 ?_
            obtain ⟨x82, e82, h⟩ := Sat_bind h
            refine r_cS [.int x68, .int l2, .int x79] [] (m_X9_withDream x68 l2 x79 μ e82) ck_X9_withDream lk_X10_207 st_X9_withDream rfl rfl (Nat.le_of_ble_eq_true rfl) ⟨by decide, by decide⟩ ⟨Nat.zero_le _, Nat.zero_le _⟩ dX10_marry_82 ?_
            refine r_istore_n (lv' := [(3, .int x82), (0, .ref a0), (1, .int l1), (2, .int l2)]) dX10_marry_85 rfl (by decide) rfl ?_
            refine r_aload_n dX10_marry_86 1 rfl ?_
            obtain ⟨x87, e87, h⟩ := Sat_bind h
            refine r_getP fk_X10_63 rfl e87 dX10_marry_87 ?_
            obtain ⟨x90, e90, h⟩ := Sat_bind h
            refine r_getP fk_X10_100 rfl e90 dX10_marry_90 ?_
            refine r_iload_n dX10_marry_93 0 rfl ?_
            obtain ⟨x94, e94, h⟩ := Sat_bind h
            refine r_cV (t := 10) [.int x82] [] (m_X9_numberOf x90 x82 μ e94) ck_X9_numberOf lk_X10_211 in_X9_numberOf se_X9_numberOf (kd_of e94) ⟨rfl, by decide, by decide⟩ rfl rfl (Nat.le_of_ble_eq_true rfl) ⟨by decide, by decide⟩ ⟨Nat.zero_le _, Nat.zero_le _⟩ dX10_marry_94 ?_
            exact r_ireturn rfl (by rw [← Sat_eq h]; exact ⟨rfl, rfl⟩) dX10_marry_97
          · have h := Sat_neg c49 h
            refine r_bipush (v := -2) dX10_marry_52 (by decide) ?_
            exact r_ireturn rfl (by rw [← Sat_eq h]; exact ⟨rfl, rfl⟩) dX10_marry_54
      · have h := Sat_pos c24 h
        refine r_bipush (v := -2) dX10_marry_27 (by decide) ?_
        exact r_ireturn rfl (by rw [← Sat_eq h]; exact ⟨rfl, rfl⟩) dX10_marry_29
theorem dX10_wishesMet_0 : decode cX10_wishesMet 0 = .ok (.iconst 0, 1) := by decide +kernel
theorem dX10_wishesMet_1 : decode cX10_wishesMet 1 = .ok (.istore_n 2, 1) := by decide +kernel
theorem dX10_wishesMet_2 : decode cX10_wishesMet 2 = .ok (.iconst 0, 1) := by decide +kernel
theorem dX10_wishesMet_3 : decode cX10_wishesMet 3 = .ok (.istore_n 3, 1) := by decide +kernel
theorem dX10_wishesMet_4 : decode cX10_wishesMet 4 = .ok (.iload_n 3, 1) := by decide +kernel
theorem dX10_wishesMet_5 : decode cX10_wishesMet 5 = .ok (.aload_n 0, 1) := by decide +kernel
theorem dX10_wishesMet_6 : decode cX10_wishesMet 6 = .ok (.getfield 63, 3) := by decide +kernel
theorem dX10_wishesMet_9 : decode cX10_wishesMet 9 = .ok (.getfield 327, 3) := by decide +kernel
theorem dX10_wishesMet_12 : decode cX10_wishesMet 12 = .ok (.getfield 160, 3) := by decide +kernel
theorem dX10_wishesMet_15 : decode cX10_wishesMet 15 = .ok (.if_icmp .ge 134, 3) := by decide +kernel
theorem dX10_wishesMet_18 : decode cX10_wishesMet 18 = .ok (.aload_n 0, 1) := by decide +kernel
theorem dX10_wishesMet_19 : decode cX10_wishesMet 19 = .ok (.getfield 63, 3) := by decide +kernel
theorem dX10_wishesMet_22 : decode cX10_wishesMet 22 = .ok (.getfield 327, 3) := by decide +kernel
theorem dX10_wishesMet_25 : decode cX10_wishesMet 25 = .ok (.iload_n 3, 1) := by decide +kernel
theorem dX10_wishesMet_26 : decode cX10_wishesMet 26 = .ok (.iconst 0, 1) := by decide +kernel
theorem dX10_wishesMet_27 : decode cX10_wishesMet 27 = .ok (.invokevirtual 191, 3) := by decide +kernel
theorem dX10_wishesMet_30 : decode cX10_wishesMet 30 = .ok (.iconst 1, 1) := by decide +kernel
theorem dX10_wishesMet_31 : decode cX10_wishesMet 31 = .ok (.if_icmp .ne 7, 3) := by decide +kernel
theorem dX10_wishesMet_34 : decode cX10_wishesMet 34 = .ok (.iconst 1, 1) := by decide +kernel
theorem dX10_wishesMet_35 : decode cX10_wishesMet 35 = .ok (.goto 4, 3) := by decide +kernel
theorem dX10_wishesMet_38 : decode cX10_wishesMet 38 = .ok (.iconst 0, 1) := by decide +kernel
theorem dX10_wishesMet_39 : decode cX10_wishesMet 39 = .ok (.istore 4, 2) := by decide +kernel
theorem dX10_wishesMet_41 : decode cX10_wishesMet 41 = .ok (.aload_n 0, 1) := by decide +kernel
theorem dX10_wishesMet_42 : decode cX10_wishesMet 42 = .ok (.getfield 63, 3) := by decide +kernel
theorem dX10_wishesMet_45 : decode cX10_wishesMet 45 = .ok (.getfield 327, 3) := by decide +kernel
theorem dX10_wishesMet_48 : decode cX10_wishesMet 48 = .ok (.iload_n 3, 1) := by decide +kernel
theorem dX10_wishesMet_49 : decode cX10_wishesMet 49 = .ok (.iconst 1, 1) := by decide +kernel
theorem dX10_wishesMet_50 : decode cX10_wishesMet 50 = .ok (.invokevirtual 191, 3) := by decide +kernel
theorem dX10_wishesMet_53 : decode cX10_wishesMet 53 = .ok (.istore 5, 2) := by decide +kernel
theorem dX10_wishesMet_55 : decode cX10_wishesMet 55 = .ok (.aload_n 0, 1) := by decide +kernel
theorem dX10_wishesMet_56 : decode cX10_wishesMet 56 = .ok (.getfield 63, 3) := by decide +kernel
theorem dX10_wishesMet_59 : decode cX10_wishesMet 59 = .ok (.getfield 327, 3) := by decide +kernel
theorem dX10_wishesMet_62 : decode cX10_wishesMet 62 = .ok (.iload_n 3, 1) := by decide +kernel
theorem dX10_wishesMet_63 : decode cX10_wishesMet 63 = .ok (.iconst 2, 1) := by decide +kernel
theorem dX10_wishesMet_64 : decode cX10_wishesMet 64 = .ok (.invokevirtual 191, 3) := by decide +kernel
theorem dX10_wishesMet_67 : decode cX10_wishesMet 67 = .ok (.istore 6, 2) := by decide +kernel
theorem dX10_wishesMet_69 : decode cX10_wishesMet 69 = .ok (.iconst 0, 1) := by decide +kernel
theorem dX10_wishesMet_70 : decode cX10_wishesMet 70 = .ok (.istore 7, 2) := by decide +kernel
theorem dX10_wishesMet_72 : decode cX10_wishesMet 72 = .ok (.aload_n 0, 1) := by decide +kernel
theorem dX10_wishesMet_73 : decode cX10_wishesMet 73 = .ok (.getfield 63, 3) := by decide +kernel
theorem dX10_wishesMet_76 : decode cX10_wishesMet 76 = .ok (.iload 6, 2) := by decide +kernel
theorem dX10_wishesMet_78 : decode cX10_wishesMet 78 = .ok (.invokevirtual 188, 3) := by decide +kernel
theorem dX10_wishesMet_81 : decode cX10_wishesMet 81 = .ok (.ifCond .eq 49, 3) := by decide +kernel
theorem dX10_wishesMet_84 : decode cX10_wishesMet 84 = .ok (.aload_n 0, 1) := by decide +kernel
theorem dX10_wishesMet_85 : decode cX10_wishesMet 85 = .ok (.getfield 84, 3) := by decide +kernel
theorem dX10_wishesMet_88 : decode cX10_wishesMet 88 = .ok (.iload 6, 2) := by decide +kernel
theorem dX10_wishesMet_90 : decode cX10_wishesMet 90 = .ok (.bipush 7, 2) := by decide +kernel
theorem dX10_wishesMet_92 : decode cX10_wishesMet 92 = .ok (.iload_n 1, 1) := by decide +kernel
theorem dX10_wishesMet_93 : decode cX10_wishesMet 93 = .ok (.invokevirtual 223, 3) := by decide +kernel
theorem dX10_wishesMet_96 : decode cX10_wishesMet 96 = .ok (.aload_n 0, 1) := by decide +kernel
theorem dX10_wishesMet_97 : decode cX10_wishesMet 97 = .ok (.getfield 84, 3) := by decide +kernel
theorem dX10_wishesMet_100 : decode cX10_wishesMet 100 = .ok (.aload_n 0, 1) := by decide +kernel
theorem dX10_wishesMet_101 : decode cX10_wishesMet 101 = .ok (.getfield 63, 3) := by decide +kernel
theorem dX10_wishesMet_104 : decode cX10_wishesMet 104 = .ok (.getfield 327, 3) := by decide +kernel
theorem dX10_wishesMet_107 : decode cX10_wishesMet 107 = .ok (.iload_n 3, 1) := by decide +kernel
theorem dX10_wishesMet_108 : decode cX10_wishesMet 108 = .ok (.iconst 3, 1) := by decide +kernel
theorem dX10_wishesMet_109 : decode cX10_wishesMet 109 = .ok (.invokevirtual 191, 3) := by decide +kernel
theorem dX10_wishesMet_112 : decode cX10_wishesMet 112 = .ok (.invokevirtual 227, 3) := by decide +kernel
theorem dX10_wishesMet_115 : decode cX10_wishesMet 115 = .ok (.iload 5, 2) := by decide +kernel
theorem dX10_wishesMet_117 : decode cX10_wishesMet 117 = .ok (.ishr, 1) := by decide +kernel
theorem dX10_wishesMet_118 : decode cX10_wishesMet 118 = .ok (.iconst 1, 1) := by decide +kernel
theorem dX10_wishesMet_119 : decode cX10_wishesMet 119 = .ok (.iand, 1) := by decide +kernel
theorem dX10_wishesMet_120 : decode cX10_wishesMet 120 = .ok (.ifCond .eq 7, 3) := by decide +kernel
theorem dX10_wishesMet_123 : decode cX10_wishesMet 123 = .ok (.iconst 1, 1) := by decide +kernel
theorem dX10_wishesMet_124 : decode cX10_wishesMet 124 = .ok (.goto 4, 3) := by decide +kernel
theorem dX10_wishesMet_127 : decode cX10_wishesMet 127 = .ok (.iconst 0, 1) := by decide +kernel
theorem dX10_wishesMet_128 : decode cX10_wishesMet 128 = .ok (.istore 7, 2) := by decide +kernel
theorem dX10_wishesMet_130 : decode cX10_wishesMet 130 = .ok (.iload 7, 2) := by decide +kernel
theorem dX10_wishesMet_132 : decode cX10_wishesMet 132 = .ok (.iload 4, 2) := by decide +kernel
theorem dX10_wishesMet_134 : decode cX10_wishesMet 134 = .ok (.if_icmp .ne 9, 3) := by decide +kernel
theorem dX10_wishesMet_137 : decode cX10_wishesMet 137 = .ok (.iload_n 2, 1) := by decide +kernel
theorem dX10_wishesMet_138 : decode cX10_wishesMet 138 = .ok (.iconst 1, 1) := by decide +kernel
theorem dX10_wishesMet_139 : decode cX10_wishesMet 139 = .ok (.iload_n 3, 1) := by decide +kernel
theorem dX10_wishesMet_140 : decode cX10_wishesMet 140 = .ok (.ishl, 1) := by decide +kernel
theorem dX10_wishesMet_141 : decode cX10_wishesMet 141 = .ok (.ior, 1) := by decide +kernel
theorem dX10_wishesMet_142 : decode cX10_wishesMet 142 = .ok (.istore_n 2, 1) := by decide +kernel
theorem dX10_wishesMet_143 : decode cX10_wishesMet 143 = .ok (.iinc 3 1, 3) := by decide +kernel
theorem dX10_wishesMet_146 : decode cX10_wishesMet 146 = .ok (.goto (-142), 3) := by decide +kernel
theorem dX10_wishesMet_149 : decode cX10_wishesMet 149 = .ok (.iload_n 2, 1) := by decide +kernel
theorem dX10_wishesMet_150 : decode cX10_wishesMet 150 = .ok (.ireturn, 1) := by decide +kernel
noncomputable def f_X10_wishesMet_J143 (a0 : Nat) (l1 : Int32) (l2 : Int32) (l3 : Int32) (μ : Mm) : Option ((Int32 × Int32 × Mm) ⊕ (Int32 × Mm)) :=
  (some (l3 + (1 : Int32))).bind fun v143 => some (.inl (l2, v143, μ))
noncomputable def f_X10_wishesMet_J130 (a0 : Nat) (l1 : Int32) (l2 : Int32) (l3 : Int32) (l4 : Int32) (l7 : Int32) (μ : Mm) : Option ((Int32 × Int32 × Mm) ⊕ (Int32 × Mm)) :=
  if l7 = l4 then (some (l2 ||| ((1 : Int32) <<< (l3 &&& 31)))).bind fun v142 => f_X10_wishesMet_J143 a0 l1 v142 l3 μ else f_X10_wishesMet_J143 a0 l1 l2 l3 μ
noncomputable def f_X10_wishesMet_J128 (a0 : Nat) (l1 : Int32) (l2 : Int32) (l3 : Int32) (l4 : Int32) (k0 : Int32) (μ : Mm) : Option ((Int32 × Int32 × Mm) ⊕ (Int32 × Mm)) :=
  f_X10_wishesMet_J130 a0 l1 l2 l3 l4 k0 μ
noncomputable def f_X10_wishesMet_J39 (a0 : Nat) (l1 : Int32) (l2 : Int32) (l3 : Int32) (k0 : Int32) (μ : Mm) : Option ((Int32 × Int32 × Mm) ⊕ (Int32 × Mm)) :=
  (gf_P 11 13 a0 μ).bind fun x42 => (gf_P 8 7 x42 μ).bind fun x45 => (f_X2_at x45 l3 (1 : Int32) μ).bind fun x50 => (gf_P 11 13 a0 μ).bind fun x56 => (gf_P 8 7 x56 μ).bind fun x59 => (f_X2_at x59 l3 (2 : Int32) μ).bind fun x64 => (gf_P 11 13 a0 μ).bind fun x73 => (f_X7_isFact x73 x64 μ).bind fun x78 => if x78 = 0 then f_X10_wishesMet_J130 a0 l1 l2 l3 k0 (0 : Int32) μ else (gf_P 11 3 a0 μ).bind fun x85 => (f_X4_setFact x85 x64 (7 : Int32) l1 μ).bind fun x93 => (gf_P 11 3 a0 x93).bind fun x97 => (gf_P 11 13 a0 x93).bind fun x101 => (gf_P 8 7 x101 x93).bind fun x104 => (f_X2_at x104 l3 (3 : Int32) x93).bind fun x109 => (f_X4_behind x97 x109 x93).bind fun x112 => if ((x112 >>> (x50 &&& 31)) &&& (1 : Int32)) = 0 then f_X10_wishesMet_J128 a0 l1 l2 l3 k0 (0 : Int32) x93 else f_X10_wishesMet_J128 a0 l1 l2 l3 k0 (1 : Int32) x93
noncomputable def f_X10_wishesMet_L4 (a0 : Nat) (l1 : Int32) (s4 : Int32 × Int32 × Mm) : Option ((Int32 × Int32 × Mm) ⊕ (Int32 × Mm)) :=
  (gf_P 11 13 a0 s4.2.2).bind fun x6 => (gf_P 8 7 x6 s4.2.2).bind fun x9 => (gf_I 3 1 x9 s4.2.2).bind fun x12 => if x12 ≤ s4.2.1 then some (.inr (s4.1, s4.2.2)) else (gf_P 11 13 a0 s4.2.2).bind fun x19 => (gf_P 8 7 x19 s4.2.2).bind fun x22 => (f_X2_at x22 s4.2.1 (0 : Int32) s4.2.2).bind fun x27 => if x27 = (1 : Int32) then f_X10_wishesMet_J39 a0 l1 s4.1 s4.2.1 (1 : Int32) s4.2.2 else f_X10_wishesMet_J39 a0 l1 s4.1 s4.2.1 (0 : Int32) s4.2.2
noncomputable def f_X10_wishesMet (a0 : Nat) (l1 : Int32) (μ : Mm) : Option (Int32 × Mm) :=
  if (mm_K μ a0).1 = 11 then (whl (f_X10_wishesMet_L4 a0 l1) ((0 : Int32), (0 : Int32), μ)).bind (fun b4 => some (b4.1, b4.2)) else none
abbrev Rn_X10_wishesMet (G : Gv) (Q : Option Value → Mm → Prop) (pc : Nat) (lv : List (Nat × Value)) (st : List Value) (μ : Mm) : Prop := Rn G RX10 cX10_wishesMet 8 (some .int) "wishesMet" (rmd 4 0 0) (Zm G 0 0 Q) 0 0 pc lv st μ
set_option maxRecDepth 100000 in
set_option maxHeartbeats 4000000 in
theorem m_X10_wishesMet {G : Gv} (a0 : Nat) (l1 : Int32) (μ : Mm) {r : (Int32 × Mm)} (hx : f_X10_wishesMet a0 l1 μ = some r) : Mt G yX10_wishesMet cX10_wishesMet 8 (some .int) 4 0 0 [.ref a0, .int l1] μ (fun v μ' => v = some (.int r.1) ∧ μ' = r.2) := by
  refine Mt.of (by decide) (Nat.le_of_ble_eq_true rfl) ?_
  show Rn_X10_wishesMet G (fun v μ' => v = some (.int r.1) ∧ μ' = r.2) 0 [(0, .ref a0), (1, .int l1)] [] μ
  obtain ⟨_, h⟩ := Sat_ifp (show Sat (f_X10_wishesMet a0 l1 μ) (fun x => x = r) from ⟨_, hx, rfl⟩)
  refine r_iconst (v := 0) dX10_wishesMet_0 (by decide) ?_
  refine r_istore_n (lv' := [(2, .int (0 : Int32)), (0, .ref a0), (1, .int l1)]) dX10_wishesMet_1 rfl (by decide) rfl ?_
  refine r_iconst (v := 0) dX10_wishesMet_2 (by decide) ?_
  refine r_istore_n (lv' := [(3, .int (0 : Int32)), (2, .int (0 : Int32)), (0, .ref a0), (1, .int l1)]) dX10_wishesMet_3 rfl (by decide) rfl ?_
  refine r_sub (lv' := [(0, .ref a0), (1, .int l1), (2, .int (0 : Int32)), (3, .int (0 : Int32))]) [2, 3, 1, 0] rfl ?_
  refine whl_K (s0 := (((0 : Int32), (0 : Int32), μ) : Int32 × Int32 × Mm)) (RR := fun (s4 : Int32 × Int32 × Mm) => Rn_X10_wishesMet G (fun v μ' => v = some (.int r.1) ∧ μ' = r.2) 4 [(0, .ref a0), (1, .int l1), (2, .int s4.1), (3, .int s4.2.1)] [] s4.2.2) ?_ (Sat_bindK h)
  intro s4 K4 hI4 hX4 h
  have J143 : ∀ (l2_143 : Int32) (l3_143 : Int32) (μ_143 : Mm), Sat (f_X10_wishesMet_J143 a0 l1 l2_143 l3_143 μ_143) K4 → Rn_X10_wishesMet G (fun v μ' => v = some (.int r.1) ∧ μ' = r.2) 143 [(0, .ref a0), (1, .int l1), (2, .int l2_143), (3, .int l3_143)] [] μ_143 := by
    intro l2_143 l3_143 μ_143 h
    obtain ⟨v143, e143, h⟩ := Sat_bind h
    refine r_iinc (j := 3) (v := v143) (lv' := [(3, .int v143), (0, .ref a0), (1, .int l1), (2, .int l2_143)]) dX10_wishesMet_143 rfl (iinc_v e143 (by decide)) (by decide) rfl ?_
    refine r_goto 4 dX10_wishesMet_146 (by decide) ?_
    exact r_sub [1, 2, 3, 0] rfl (hI4 _ (Sat_some h))
  have J130 : ∀ (l2_130 : Int32) (l3_130 : Int32) (l4_130 : Int32) (l7_130 : Int32) (μ_130 : Mm), Sat (f_X10_wishesMet_J130 a0 l1 l2_130 l3_130 l4_130 l7_130 μ_130) K4 → Rn_X10_wishesMet G (fun v μ' => v = some (.int r.1) ∧ μ' = r.2) 130 [(0, .ref a0), (1, .int l1), (2, .int l2_130), (3, .int l3_130), (4, .int l4_130), (7, .int l7_130)] [] μ_130 := by
    intro l2_130 l3_130 l4_130 l7_130 μ_130 h
    refine r_iload dX10_wishesMet_130 5 rfl ?_
    refine r_iload dX10_wishesMet_132 4 rfl ?_
    refine r_icmp_ne 143 dX10_wishesMet_134 (by decide) (fun c134 => ?_) (fun c134 => ?_)
    · have h := Sat_neg c134 h
      exact r_sub [0, 1, 2, 3] rfl (J143 l2_130 l3_130 μ_130 h)
    · have h := Sat_pos c134 h
      refine r_iload_n dX10_wishesMet_137 2 rfl ?_
      refine r_iconst (v := 1) dX10_wishesMet_138 (by decide) ?_
      refine r_iload_n dX10_wishesMet_139 3 rfl ?_
      refine r_ishl dX10_wishesMet_140 ?_
      refine r_ior dX10_wishesMet_141 ?_
      obtain ⟨v142, e142, h⟩ := Sat_bind h
      refine r_topi (Option.some.inj e142) ?_
      refine r_istore_n (lv' := [(2, .int v142), (0, .ref a0), (1, .int l1), (3, .int l3_130), (4, .int l4_130), (7, .int l7_130)]) dX10_wishesMet_142 rfl (by decide) rfl ?_
      exact r_sub [1, 2, 0, 3] rfl (J143 v142 l3_130 μ_130 h)
  have J128 : ∀ (l2_128 : Int32) (l3_128 : Int32) (l4_128 : Int32) (k0_128 : Int32) (μ_128 : Mm), Sat (f_X10_wishesMet_J128 a0 l1 l2_128 l3_128 l4_128 k0_128 μ_128) K4 → Rn_X10_wishesMet G (fun v μ' => v = some (.int r.1) ∧ μ' = r.2) 128 [(0, .ref a0), (1, .int l1), (2, .int l2_128), (3, .int l3_128), (4, .int l4_128)] [.int k0_128] μ_128 := by
    intro l2_128 l3_128 l4_128 k0_128 μ_128 h
    refine r_istore (lv' := [(7, .int k0_128), (0, .ref a0), (1, .int l1), (2, .int l2_128), (3, .int l3_128), (4, .int l4_128)]) dX10_wishesMet_128 (by decide) rfl ?_
    exact r_sub [1, 2, 3, 4, 5, 0] rfl (J130 l2_128 l3_128 l4_128 k0_128 μ_128 h)
  have J39 : ∀ (l2_39 : Int32) (l3_39 : Int32) (k0_39 : Int32) (μ_39 : Mm), Sat (f_X10_wishesMet_J39 a0 l1 l2_39 l3_39 k0_39 μ_39) K4 → Rn_X10_wishesMet G (fun v μ' => v = some (.int r.1) ∧ μ' = r.2) 39 [(0, .ref a0), (1, .int l1), (2, .int l2_39), (3, .int l3_39)] [.int k0_39] μ_39 := by
    intro l2_39 l3_39 k0_39 μ_39 h
    refine r_istore (lv' := [(4, .int k0_39), (0, .ref a0), (1, .int l1), (2, .int l2_39), (3, .int l3_39)]) dX10_wishesMet_39 (by decide) rfl ?_
    refine r_aload_n dX10_wishesMet_41 1 rfl ?_
    obtain ⟨x42, e42, h⟩ := Sat_bind h
    refine r_getP fk_X10_63 rfl e42 dX10_wishesMet_42 ?_
    obtain ⟨x45, e45, h⟩ := Sat_bind h
    refine r_getP fk_X10_327 rfl e45 dX10_wishesMet_45 ?_
    refine r_iload_n dX10_wishesMet_48 4 rfl ?_
    refine r_iconst (v := 1) dX10_wishesMet_49 (by decide) ?_
    obtain ⟨x50, e50, h⟩ := Sat_bind h
    refine r_cV (t := 3) [.int l3_39, .int (1 : Int32)] [] (m_X2_at x45 l3_39 (1 : Int32) μ_39 e50) ck_X2_at lk_X10_191 in_X2_at se_X2_at (kd_of e50) ⟨rfl, by decide, by decide⟩ rfl rfl (Nat.le_of_ble_eq_true rfl) ⟨by decide, by decide⟩ ⟨Nat.zero_le _, Nat.zero_le _⟩ dX10_wishesMet_50 ?_
    refine r_istore (lv' := [(5, .int x50), (4, .int k0_39), (0, .ref a0), (1, .int l1), (2, .int l2_39), (3, .int l3_39)]) dX10_wishesMet_53 (by decide) rfl ?_
    refine r_aload_n dX10_wishesMet_55 2 rfl ?_
    obtain ⟨x56, e56, h⟩ := Sat_bind h
    refine r_getP fk_X10_63 rfl e56 dX10_wishesMet_56 ?_
    obtain ⟨x59, e59, h⟩ := Sat_bind h
    refine r_getP fk_X10_327 rfl e59 dX10_wishesMet_59 ?_
    refine r_iload_n dX10_wishesMet_62 5 rfl ?_
    refine r_iconst (v := 2) dX10_wishesMet_63 (by decide) ?_
    obtain ⟨x64, e64, h⟩ := Sat_bind h
    refine r_cV (t := 3) [.int l3_39, .int (2 : Int32)] [] (m_X2_at x59 l3_39 (2 : Int32) μ_39 e64) ck_X2_at lk_X10_191 in_X2_at se_X2_at (kd_of e64) ⟨rfl, by decide, by decide⟩ rfl rfl (Nat.le_of_ble_eq_true rfl) ⟨by decide, by decide⟩ ⟨Nat.zero_le _, Nat.zero_le _⟩ dX10_wishesMet_64 ?_
    refine r_istore (lv' := [(6, .int x64), (5, .int x50), (4, .int k0_39), (0, .ref a0), (1, .int l1), (2, .int l2_39), (3, .int l3_39)]) dX10_wishesMet_67 (by decide) rfl ?_
    refine r_iconst (v := 0) dX10_wishesMet_69 (by decide) ?_
    refine r_istore (lv' := [(7, .int (0 : Int32)), (6, .int x64), (5, .int x50), (4, .int k0_39), (0, .ref a0), (1, .int l1), (2, .int l2_39), (3, .int l3_39)]) dX10_wishesMet_70 (by decide) rfl ?_
    refine r_aload_n dX10_wishesMet_72 4 rfl ?_
    obtain ⟨x73, e73, h⟩ := Sat_bind h
    refine r_getP fk_X10_63 rfl e73 dX10_wishesMet_73 ?_
    refine r_iload dX10_wishesMet_76 1 rfl ?_
    obtain ⟨x78, e78, h⟩ := Sat_bind h
    refine r_cV (t := 8) [.int x64] [] (m_X7_isFact x73 x64 μ_39 e78) ck_X7_isFact lk_X10_188 in_X7_isFact se_X7_isFact (kd_of e78) ⟨rfl, by decide, by decide⟩ rfl rfl (Nat.le_of_ble_eq_true rfl) ⟨by decide, by decide⟩ ⟨Nat.zero_le _, Nat.zero_le _⟩ dX10_wishesMet_78 ?_
    refine r_if_eq 130 dX10_wishesMet_81 (by decide) (fun c81 => ?_) (fun c81 => ?_)
    · have h := Sat_pos c81 h
      exact r_sub [4, 5, 6, 7, 3, 0] rfl (J130 l2_39 l3_39 k0_39 (0 : Int32) μ_39 h)
    · have h := Sat_neg c81 h
      refine r_aload_n dX10_wishesMet_84 4 rfl ?_
      obtain ⟨x85, e85, h⟩ := Sat_bind h
      refine r_getP fk_X10_84 rfl e85 dX10_wishesMet_85 ?_
      refine r_iload dX10_wishesMet_88 1 rfl ?_
      refine r_bipush (v := 7) dX10_wishesMet_90 (by decide) ?_
      refine r_iload_n dX10_wishesMet_92 5 rfl ?_
      obtain ⟨x93, e93, h⟩ := Sat_bind h
      refine r_cV (t := 5) [.int x64, .int (7 : Int32), .int l1] [] (m_X4_setFact x85 x64 (7 : Int32) l1 μ_39 e93) ck_X4_setFact lk_X10_223 in_X4_setFact se_X4_setFact (kd_of e93) ⟨rfl, by decide, by decide⟩ rfl rfl (Nat.le_of_ble_eq_true rfl) ⟨by decide, by decide⟩ ⟨Nat.zero_le _, Nat.zero_le _⟩ dX10_wishesMet_93 ?_
      refine r_aload_n dX10_wishesMet_96 4 rfl ?_
      obtain ⟨x97, e97, h⟩ := Sat_bind h
      refine r_getP fk_X10_84 rfl e97 dX10_wishesMet_97 ?_
      refine r_aload_n dX10_wishesMet_100 4 rfl ?_
      obtain ⟨x101, e101, h⟩ := Sat_bind h
      refine r_getP fk_X10_63 rfl e101 dX10_wishesMet_101 ?_
      obtain ⟨x104, e104, h⟩ := Sat_bind h
      refine r_getP fk_X10_327 rfl e104 dX10_wishesMet_104 ?_
      refine r_iload_n dX10_wishesMet_107 7 rfl ?_
      refine r_iconst (v := 3) dX10_wishesMet_108 (by decide) ?_
      obtain ⟨x109, e109, h⟩ := Sat_bind h
      refine r_cV (t := 3) [.int l3_39, .int (3 : Int32)] [.ref x97] (m_X2_at x104 l3_39 (3 : Int32) x93 e109) ck_X2_at lk_X10_191 in_X2_at se_X2_at (kd_of e109) ⟨rfl, by decide, by decide⟩ rfl rfl (Nat.le_of_ble_eq_true rfl) ⟨by decide, by decide⟩ ⟨Nat.zero_le _, Nat.zero_le _⟩ dX10_wishesMet_109 ?_
      obtain ⟨x112, e112, h⟩ := Sat_bind h
      refine r_cV (t := 5) [.int x109] [] (m_X4_behind x97 x109 x93 e112) ck_X4_behind lk_X10_227 in_X4_behind se_X4_behind (kd_of e112) ⟨rfl, by decide, by decide⟩ rfl rfl (Nat.le_of_ble_eq_true rfl) ⟨by decide, by decide⟩ ⟨Nat.zero_le _, Nat.zero_le _⟩ dX10_wishesMet_112 ?_
      refine r_iload dX10_wishesMet_115 2 rfl ?_
      refine r_ishr dX10_wishesMet_117 ?_
      refine r_iconst (v := 1) dX10_wishesMet_118 (by decide) ?_
      refine r_iand dX10_wishesMet_119 ?_
      refine r_if_eq 127 dX10_wishesMet_120 (by decide) (fun c120 => ?_) (fun c120 => ?_)
      · have h := Sat_pos c120 h
        refine r_iconst (v := 0) dX10_wishesMet_127 (by decide) ?_
        exact r_sub [4, 5, 6, 7, 3] rfl (J128 l2_39 l3_39 k0_39 (0 : Int32) x93 h)
      · have h := Sat_neg c120 h
        refine r_iconst (v := 1) dX10_wishesMet_123 (by decide) ?_
        refine r_goto 128 dX10_wishesMet_124 (by decide) ?_
        exact r_sub [4, 5, 6, 7, 3] rfl (J128 l2_39 l3_39 k0_39 (1 : Int32) x93 h)
  refine r_iload_n dX10_wishesMet_4 3 rfl ?_
  refine r_aload_n dX10_wishesMet_5 0 rfl ?_
  obtain ⟨x6, e6, h⟩ := Sat_bind h
  refine r_getP fk_X10_63 rfl e6 dX10_wishesMet_6 ?_
  obtain ⟨x9, e9, h⟩ := Sat_bind h
  refine r_getP fk_X10_327 rfl e9 dX10_wishesMet_9 ?_
  obtain ⟨x12, e12, h⟩ := Sat_bind h
  refine r_getI fk_X10_160 rfl e12 dX10_wishesMet_12 ?_
  refine r_icmp_ge 149 dX10_wishesMet_15 (by decide) (fun c15 => ?_) (fun c15 => ?_)
  · have h := Sat_pos c15 h
    have h := hX4 _ (Sat_some h)
    refine r_iload_n dX10_wishesMet_149 2 rfl ?_
    exact r_ireturn rfl (by rw [← Sat_eq h]; exact ⟨rfl, rfl⟩) dX10_wishesMet_150
  · have h := Sat_neg c15 h
    refine r_aload_n dX10_wishesMet_18 0 rfl ?_
    obtain ⟨x19, e19, h⟩ := Sat_bind h
    refine r_getP fk_X10_63 rfl e19 dX10_wishesMet_19 ?_
    obtain ⟨x22, e22, h⟩ := Sat_bind h
    refine r_getP fk_X10_327 rfl e22 dX10_wishesMet_22 ?_
    refine r_iload_n dX10_wishesMet_25 3 rfl ?_
    refine r_iconst (v := 0) dX10_wishesMet_26 (by decide) ?_
    obtain ⟨x27, e27, h⟩ := Sat_bind h
    refine r_cV (t := 3) [.int s4.2.1, .int (0 : Int32)] [] (m_X2_at x22 s4.2.1 (0 : Int32) s4.2.2 e27) ck_X2_at lk_X10_191 in_X2_at se_X2_at (kd_of e27) ⟨rfl, by decide, by decide⟩ rfl rfl (Nat.le_of_ble_eq_true rfl) ⟨by decide, by decide⟩ ⟨Nat.zero_le _, Nat.zero_le _⟩ dX10_wishesMet_27 ?_
    refine r_iconst (v := 1) dX10_wishesMet_30 (by decide) ?_
    refine r_icmp_ne 38 dX10_wishesMet_31 (by decide) (fun c31 => ?_) (fun c31 => ?_)
    · have h := Sat_neg c31 h
      refine r_iconst (v := 0) dX10_wishesMet_38 (by decide) ?_
      exact r_sub [0, 1, 2, 3] rfl (J39 s4.1 s4.2.1 (0 : Int32) s4.2.2 h)
    · have h := Sat_pos c31 h
      refine r_iconst (v := 1) dX10_wishesMet_34 (by decide) ?_
      refine r_goto 39 dX10_wishesMet_35 (by decide) ?_
      exact r_sub [0, 1, 2, 3] rfl (J39 s4.1 s4.2.1 (1 : Int32) s4.2.2 h)
theorem dX10_met_0 : decode cX10_met 0 = .ok (.iload_n 1, 1) := by decide +kernel
theorem dX10_met_1 : decode cX10_met 1 = .ok (.ifCond .lt 16, 3) := by decide +kernel
theorem dX10_met_4 : decode cX10_met 4 = .ok (.iload_n 1, 1) := by decide +kernel
theorem dX10_met_5 : decode cX10_met 5 = .ok (.iconst 1, 1) := by decide +kernel
theorem dX10_met_6 : decode cX10_met 6 = .ok (.aload_n 0, 1) := by decide +kernel
theorem dX10_met_7 : decode cX10_met 7 = .ok (.getfield 63, 3) := by decide +kernel
theorem dX10_met_10 : decode cX10_met 10 = .ok (.getfield 153, 3) := by decide +kernel
theorem dX10_met_13 : decode cX10_met 13 = .ok (.ishl, 1) := by decide +kernel
theorem dX10_met_14 : decode cX10_met 14 = .ok (.if_icmp .lt 6, 3) := by decide +kernel
theorem dX10_met_17 : decode cX10_met 17 = .ok (.bipush (-2), 2) := by decide +kernel
theorem dX10_met_19 : decode cX10_met 19 = .ok (.ireturn, 1) := by decide +kernel
theorem dX10_met_20 : decode cX10_met 20 = .ok (.aload_n 0, 1) := by decide +kernel
theorem dX10_met_21 : decode cX10_met 21 = .ok (.getfield 84, 3) := by decide +kernel
theorem dX10_met_24 : decode cX10_met 24 = .ok (.aload_n 0, 1) := by decide +kernel
theorem dX10_met_25 : decode cX10_met 25 = .ok (.getfield 116, 3) := by decide +kernel
theorem dX10_met_28 : decode cX10_met 28 = .ok (.invokevirtual 220, 3) := by decide +kernel
theorem dX10_met_31 : decode cX10_met 31 = .ok (.aload_n 0, 1) := by decide +kernel
theorem dX10_met_32 : decode cX10_met 32 = .ok (.iload_n 1, 1) := by decide +kernel
theorem dX10_met_33 : decode cX10_met 33 = .ok (.invokevirtual 330, 3) := by decide +kernel
theorem dX10_met_36 : decode cX10_met 36 = .ok (.ireturn, 1) := by decide +kernel
noncomputable def f_X10_met (a0 : Nat) (l1 : Int32) (μ : Mm) : Option (Int32 × Mm) :=
  if (mm_K μ a0).1 = 11 then if l1 < 0 then some ((-2 : Int32), μ) else (gf_P 11 13 a0 μ).bind fun x7 => (gf_I 8 9 x7 μ).bind fun x10 => if l1 < ((1 : Int32) <<< (x10 &&& 31)) then (gf_P 11 3 a0 μ).bind fun x21 => (gf_I 11 15 a0 μ).bind fun x25 => (f_X4_setTurning x21 x25 μ).bind fun x28 => (f_X10_wishesMet a0 l1 x28).bind fun x33 => some (x33.1, x33.2) else some ((-2 : Int32), μ) else none
abbrev Rn_X10_met (G : Gv) (Q : Option Value → Mm → Prop) (pc : Nat) (lv : List (Nat × Value)) (st : List Value) (μ : Mm) : Prop := Rn G RX10 cX10_met 2 (some .int) "met" (rmd 5 0 0) (Zm G 0 0 Q) 0 0 pc lv st μ
set_option maxRecDepth 100000 in
set_option maxHeartbeats 4000000 in
theorem m_X10_met {G : Gv} (a0 : Nat) (l1 : Int32) (μ : Mm) {r : (Int32 × Mm)} (hx : f_X10_met a0 l1 μ = some r) : Mt G yX10_met cX10_met 2 (some .int) 5 0 0 [.ref a0, .int l1] μ (fun v μ' => v = some (.int r.1) ∧ μ' = r.2) := by
  refine Mt.of (by decide) (Nat.le_of_ble_eq_true rfl) ?_
  show Rn_X10_met G (fun v μ' => v = some (.int r.1) ∧ μ' = r.2) 0 [(0, .ref a0), (1, .int l1)] [] μ
  obtain ⟨_, h⟩ := Sat_ifp (show Sat (f_X10_met a0 l1 μ) (fun x => x = r) from ⟨_, hx, rfl⟩)
  refine r_iload_n dX10_met_0 1 rfl ?_
  refine r_if_lt 17 dX10_met_1 (by decide) (fun c1 => ?_) (fun c1 => ?_)
  · have h := Sat_pos c1 h
    refine r_bipush (v := -2) dX10_met_17 (by decide) ?_
    exact r_ireturn rfl (by rw [← Sat_eq h]; exact ⟨rfl, rfl⟩) dX10_met_19
  · have h := Sat_neg c1 h
    refine r_iload_n dX10_met_4 1 rfl ?_
    refine r_iconst (v := 1) dX10_met_5 (by decide) ?_
    refine r_aload_n dX10_met_6 0 rfl ?_
    obtain ⟨x7, e7, h⟩ := Sat_bind h
    refine r_getP fk_X10_63 rfl e7 dX10_met_7 ?_
    obtain ⟨x10, e10, h⟩ := Sat_bind h
    refine r_getI fk_X10_153 rfl e10 dX10_met_10 ?_
    refine r_ishl dX10_met_13 ?_
    refine r_icmp_lt 20 dX10_met_14 (by decide) (fun c14 => ?_) (fun c14 => ?_)
    · have h := Sat_pos c14 h
      refine r_aload_n dX10_met_20 0 rfl ?_
      obtain ⟨x21, e21, h⟩ := Sat_bind h
      refine r_getP fk_X10_84 rfl e21 dX10_met_21 ?_
      refine r_aload_n dX10_met_24 0 rfl ?_
      obtain ⟨x25, e25, h⟩ := Sat_bind h
      refine r_getI fk_X10_116 rfl e25 dX10_met_25 ?_
      obtain ⟨x28, e28, h⟩ := Sat_bind h
      refine r_cV (t := 5) [.int x25] [] (m_X4_setTurning x21 x25 μ e28) ck_X4_setTurning lk_X10_220 in_X4_setTurning se_X4_setTurning (kd_of e28) ⟨rfl, by decide, by decide⟩ rfl rfl (Nat.le_of_ble_eq_true rfl) ⟨by decide, by decide⟩ ⟨Nat.zero_le _, Nat.zero_le _⟩ dX10_met_28 ?_
      refine r_aload_n dX10_met_31 0 rfl ?_
      refine r_iload_n dX10_met_32 1 rfl ?_
      obtain ⟨x33, e33, h⟩ := Sat_bind h
      refine r_cV (t := 11) [.int l1] [] (m_X10_wishesMet a0 l1 x28 e33) ck_X10_wishesMet lk_X10_330 in_X10_wishesMet se_X10_wishesMet (kd_of e33) ⟨rfl, by decide, by decide⟩ rfl rfl (Nat.le_of_ble_eq_true rfl) ⟨by decide, by decide⟩ ⟨Nat.zero_le _, Nat.zero_le _⟩ dX10_met_33 ?_
      exact r_ireturn rfl (by rw [← Sat_eq h]; exact ⟨rfl, rfl⟩) dX10_met_36
    · have h := Sat_neg c14 h
      refine r_bipush (v := -2) dX10_met_17 (by decide) ?_
      exact r_ireturn rfl (by rw [← Sat_eq h]; exact ⟨rfl, rfl⟩) dX10_met_19
theorem dX3_knownTo_0 : decode cX3_knownTo 0 = .ok (.iconst 0, 1) := by decide +kernel
theorem dX3_knownTo_1 : decode cX3_knownTo 1 = .ok (.istore_n 2, 1) := by decide +kernel
theorem dX3_knownTo_2 : decode cX3_knownTo 2 = .ok (.iconst 0, 1) := by decide +kernel
theorem dX3_knownTo_3 : decode cX3_knownTo 3 = .ok (.istore_n 3, 1) := by decide +kernel
theorem dX3_knownTo_4 : decode cX3_knownTo 4 = .ok (.iload_n 3, 1) := by decide +kernel
theorem dX3_knownTo_5 : decode cX3_knownTo 5 = .ok (.bipush 12, 2) := by decide +kernel
theorem dX3_knownTo_7 : decode cX3_knownTo 7 = .ok (.if_icmp .ge 24, 3) := by decide +kernel
theorem dX3_knownTo_10 : decode cX3_knownTo 10 = .ok (.iload_n 2, 1) := by decide +kernel
theorem dX3_knownTo_11 : decode cX3_knownTo 11 = .ok (.aload_n 0, 1) := by decide +kernel
theorem dX3_knownTo_12 : decode cX3_knownTo 12 = .ok (.getfield 9, 3) := by decide +kernel
theorem dX3_knownTo_15 : decode cX3_knownTo 15 = .ok (.iload_n 3, 1) := by decide +kernel
theorem dX3_knownTo_16 : decode cX3_knownTo 16 = .ok (.iaload, 1) := by decide +kernel
theorem dX3_knownTo_17 : decode cX3_knownTo 17 = .ok (.iload_n 1, 1) := by decide +kernel
theorem dX3_knownTo_18 : decode cX3_knownTo 18 = .ok (.ishr, 1) := by decide +kernel
theorem dX3_knownTo_19 : decode cX3_knownTo 19 = .ok (.iconst 1, 1) := by decide +kernel
theorem dX3_knownTo_20 : decode cX3_knownTo 20 = .ok (.iand, 1) := by decide +kernel
theorem dX3_knownTo_21 : decode cX3_knownTo 21 = .ok (.iload_n 3, 1) := by decide +kernel
theorem dX3_knownTo_22 : decode cX3_knownTo 22 = .ok (.ishl, 1) := by decide +kernel
theorem dX3_knownTo_23 : decode cX3_knownTo 23 = .ok (.ior, 1) := by decide +kernel
theorem dX3_knownTo_24 : decode cX3_knownTo 24 = .ok (.istore_n 2, 1) := by decide +kernel
theorem dX3_knownTo_25 : decode cX3_knownTo 25 = .ok (.iinc 3 1, 3) := by decide +kernel
theorem dX3_knownTo_28 : decode cX3_knownTo 28 = .ok (.goto (-24), 3) := by decide +kernel
theorem dX3_knownTo_31 : decode cX3_knownTo 31 = .ok (.iload_n 2, 1) := by decide +kernel
theorem dX3_knownTo_32 : decode cX3_knownTo 32 = .ok (.ireturn, 1) := by decide +kernel
noncomputable def f_X3_knownTo_L4 (a0 : Nat) (l1 : Int32) (μ : Mm) (s4 : Int32 × Int32) : Option ((Int32 × Int32) ⊕ (Int32)) :=
  if (12 : Int32) ≤ s4.2 then some (.inr s4.1) else (gf_P 4 0 a0 μ).bind fun x12 => (ga_I x12 s4.2 μ).bind fun x16 => (some (s4.1 ||| (((x16 >>> (l1 &&& 31)) &&& (1 : Int32)) <<< (s4.2 &&& 31)))).bind fun v24 => (some (s4.2 + (1 : Int32))).bind fun v25 => some (.inl (v24, v25))
noncomputable def f_X3_knownTo (a0 : Nat) (l1 : Int32) (μ : Mm) : Option Int32 :=
  if (mm_K μ a0).1 = 4 then (whl (f_X3_knownTo_L4 a0 l1 μ) ((0 : Int32), (0 : Int32))).bind (fun b4 => some b4) else none
abbrev Rn_X3_knownTo (G : Gv) (Q : Option Value → Mm → Prop) (pc : Nat) (lv : List (Nat × Value)) (st : List Value) (μ : Mm) : Prop := Rn G RX3 cX3_knownTo 4 (some .int) "knownTo" (rmd 0 0 0) (Zm G 0 0 Q) 0 0 pc lv st μ
set_option maxRecDepth 100000 in
set_option maxHeartbeats 4000000 in
theorem m_X3_knownTo {G : Gv} (a0 : Nat) (l1 : Int32) (μ : Mm) {r : Int32} (hx : f_X3_knownTo a0 l1 μ = some r) : Mt G yX3_knownTo cX3_knownTo 4 (some .int) 0 0 0 [.ref a0, .int l1] μ (fun v μ' => v = some (.int r) ∧ μ' = μ) := by
  refine Mt.of (by decide) (Nat.le_of_ble_eq_true rfl) ?_
  show Rn_X3_knownTo G (fun v μ' => v = some (.int r) ∧ μ' = μ) 0 [(0, .ref a0), (1, .int l1)] [] μ
  obtain ⟨_, h⟩ := Sat_ifp (show Sat (f_X3_knownTo a0 l1 μ) (fun x => x = r) from ⟨_, hx, rfl⟩)
  refine r_iconst (v := 0) dX3_knownTo_0 (by decide) ?_
  refine r_istore_n (lv' := [(2, .int (0 : Int32)), (0, .ref a0), (1, .int l1)]) dX3_knownTo_1 rfl (by decide) rfl ?_
  refine r_iconst (v := 0) dX3_knownTo_2 (by decide) ?_
  refine r_istore_n (lv' := [(3, .int (0 : Int32)), (2, .int (0 : Int32)), (0, .ref a0), (1, .int l1)]) dX3_knownTo_3 rfl (by decide) rfl ?_
  refine r_sub (lv' := [(0, .ref a0), (1, .int l1), (2, .int (0 : Int32)), (3, .int (0 : Int32))]) [2, 3, 1, 0] rfl ?_
  refine whl_K (s0 := (((0 : Int32), (0 : Int32)) : Int32 × Int32)) (RR := fun (s4 : Int32 × Int32) => Rn_X3_knownTo G (fun v μ' => v = some (.int r) ∧ μ' = μ) 4 [(0, .ref a0), (1, .int l1), (2, .int s4.1), (3, .int s4.2)] [] μ) ?_ (Sat_bindK h)
  intro s4 K4 hI4 hX4 h
  refine r_iload_n dX3_knownTo_4 3 rfl ?_
  refine r_bipush (v := 12) dX3_knownTo_5 (by decide) ?_
  refine r_icmp_ge 31 dX3_knownTo_7 (by decide) (fun c7 => ?_) (fun c7 => ?_)
  · have h := Sat_pos c7 h
    have h := hX4 _ (Sat_some h)
    refine r_iload_n dX3_knownTo_31 2 rfl ?_
    exact r_ireturn rfl (by rw [← Sat_eq h]; exact ⟨rfl, rfl⟩) dX3_knownTo_32
  · have h := Sat_neg c7 h
    refine r_iload_n dX3_knownTo_10 2 rfl ?_
    refine r_aload_n dX3_knownTo_11 0 rfl ?_
    obtain ⟨x12, e12, h⟩ := Sat_bind h
    refine r_getP fk_X3_9 rfl e12 dX3_knownTo_12 ?_
    refine r_iload_n dX3_knownTo_15 3 rfl ?_
    obtain ⟨x16, e16, h⟩ := Sat_bind h
    refine r_iaload e16 dX3_knownTo_16 ?_
    refine r_iload_n dX3_knownTo_17 1 rfl ?_
    refine r_ishr dX3_knownTo_18 ?_
    refine r_iconst (v := 1) dX3_knownTo_19 (by decide) ?_
    refine r_iand dX3_knownTo_20 ?_
    refine r_iload_n dX3_knownTo_21 3 rfl ?_
    refine r_ishl dX3_knownTo_22 ?_
    refine r_ior dX3_knownTo_23 ?_
    obtain ⟨v24, e24, h⟩ := Sat_bind h
    refine r_topi (Option.some.inj e24) ?_
    refine r_istore_n (lv' := [(2, .int v24), (0, .ref a0), (1, .int l1), (3, .int s4.2)]) dX3_knownTo_24 rfl (by decide) rfl ?_
    obtain ⟨v25, e25, h⟩ := Sat_bind h
    refine r_iinc (j := 3) (v := v25) (lv' := [(3, .int v25), (2, .int v24), (0, .ref a0), (1, .int l1)]) dX3_knownTo_25 rfl (iinc_v e25 (by decide)) (by decide) rfl ?_
    refine r_goto 4 dX3_knownTo_28 (by decide) ?_
    exact r_sub [2, 3, 1, 0] rfl (hI4 _ (Sat_some h))
theorem dX10_now_0 : decode cX10_now 0 = .ok (.aload_n 0, 1) := by decide +kernel
theorem dX10_now_1 : decode cX10_now 1 = .ok (.getfield 63, 3) := by decide +kernel
theorem dX10_now_4 : decode cX10_now 4 = .ok (.iload_n 1, 1) := by decide +kernel
theorem dX10_now_5 : decode cX10_now 5 = .ok (.invokevirtual 178, 3) := by decide +kernel
theorem dX10_now_8 : decode cX10_now 8 = .ok (.ifCond .eq 12, 3) := by decide +kernel
theorem dX10_now_11 : decode cX10_now 11 = .ok (.iload_n 2, 1) := by decide +kernel
theorem dX10_now_12 : decode cX10_now 12 = .ok (.ifCond .lt 8, 3) := by decide +kernel
theorem dX10_now_15 : decode cX10_now 15 = .ok (.iload_n 2, 1) := by decide +kernel
theorem dX10_now_16 : decode cX10_now 16 = .ok (.iconst 1, 1) := by decide +kernel
theorem dX10_now_17 : decode cX10_now 17 = .ok (.if_icmp .le 6, 3) := by decide +kernel
theorem dX10_now_20 : decode cX10_now 20 = .ok (.bipush (-2), 2) := by decide +kernel
theorem dX10_now_22 : decode cX10_now 22 = .ok (.ireturn, 1) := by decide +kernel
theorem dX10_now_23 : decode cX10_now 23 = .ok (.aload_n 0, 1) := by decide +kernel
theorem dX10_now_24 : decode cX10_now 24 = .ok (.getfield 35, 3) := by decide +kernel
theorem dX10_now_27 : decode cX10_now 27 = .ok (.getfield 125, 3) := by decide +kernel
theorem dX10_now_30 : decode cX10_now 30 = .ok (.ifCond .ne 5, 3) := by decide +kernel
theorem dX10_now_33 : decode cX10_now 33 = .ok (.iconst (-1), 1) := by decide +kernel
theorem dX10_now_34 : decode cX10_now 34 = .ok (.ireturn, 1) := by decide +kernel
theorem dX10_now_35 : decode cX10_now 35 = .ok (.iload_n 2, 1) := by decide +kernel
theorem dX10_now_36 : decode cX10_now 36 = .ok (.ifCond .ne 14, 3) := by decide +kernel
theorem dX10_now_39 : decode cX10_now 39 = .ok (.aload_n 0, 1) := by decide +kernel
theorem dX10_now_40 : decode cX10_now 40 = .ok (.getfield 35, 3) := by decide +kernel
theorem dX10_now_43 : decode cX10_now 43 = .ok (.iload_n 1, 1) := by decide +kernel
theorem dX10_now_44 : decode cX10_now 44 = .ok (.invokevirtual 425, 3) := by decide +kernel
theorem dX10_now_47 : decode cX10_now 47 = .ok (.goto 14, 3) := by decide +kernel
theorem dX10_now_50 : decode cX10_now 50 = .ok (.aload_n 0, 1) := by decide +kernel
theorem dX10_now_51 : decode cX10_now 51 = .ok (.getfield 35, 3) := by decide +kernel
theorem dX10_now_54 : decode cX10_now 54 = .ok (.getfield 428, 3) := by decide +kernel
theorem dX10_now_57 : decode cX10_now 57 = .ok (.iload_n 1, 1) := by decide +kernel
theorem dX10_now_58 : decode cX10_now 58 = .ok (.invokestatic 199, 3) := by decide +kernel
theorem dX10_now_61 : decode cX10_now 61 = .ok (.ireturn, 1) := by decide +kernel
noncomputable def f_X10_now (a0 : Nat) (l1 : Int32) (l2 : Int32) (μ : Mm) : Option Int32 :=
  if (mm_K μ a0).1 = 11 then (gf_P 11 13 a0 μ).bind fun x1 => (f_X7_isPerson x1 l1 μ).bind fun x5 => if x5 = 0 then some (-2 : Int32) else if l2 < 0 then some (-2 : Int32) else if l2 ≤ (1 : Int32) then (gf_P 11 6 a0 μ).bind fun x24 => (gf_I 4 1 x24 μ).bind fun x27 => if x27 = 0 then some (-1 : Int32) else if l2 = 0 then (gf_P 11 6 a0 μ).bind fun x40 => (f_X3_knownTo x40 l1 μ).bind fun x44 => some x44 else (gf_P 11 6 a0 μ).bind fun x51 => (gf_I 4 3 x51 μ).bind fun x54 => (f_X9_dreamOf x54 l1 μ).bind fun x58 => some x58 else some (-2 : Int32) else none
abbrev Rn_X10_now (G : Gv) (Q : Option Value → Mm → Prop) (pc : Nat) (lv : List (Nat × Value)) (st : List Value) (μ : Mm) : Prop := Rn G RX10 cX10_now 3 (some .int) "now" (rmd 1 0 0) (Zm G 0 0 Q) 0 0 pc lv st μ
set_option maxRecDepth 100000 in
set_option maxHeartbeats 4000000 in
theorem m_X10_now {G : Gv} (a0 : Nat) (l1 : Int32) (l2 : Int32) (μ : Mm) {r : Int32} (hx : f_X10_now a0 l1 l2 μ = some r) : Mt G yX10_now cX10_now 3 (some .int) 1 0 0 [.ref a0, .int l1, .int l2] μ (fun v μ' => v = some (.int r) ∧ μ' = μ) := by
  refine Mt.of (by decide) (Nat.le_of_ble_eq_true rfl) ?_
  show Rn_X10_now G (fun v μ' => v = some (.int r) ∧ μ' = μ) 0 [(0, .ref a0), (1, .int l1), (2, .int l2)] [] μ
  obtain ⟨_, h⟩ := Sat_ifp (show Sat (f_X10_now a0 l1 l2 μ) (fun x => x = r) from ⟨_, hx, rfl⟩)
  refine r_aload_n dX10_now_0 0 rfl ?_
  obtain ⟨x1, e1, h⟩ := Sat_bind h
  refine r_getP fk_X10_63 rfl e1 dX10_now_1 ?_
  refine r_iload_n dX10_now_4 1 rfl ?_
  obtain ⟨x5, e5, h⟩ := Sat_bind h
  refine r_cV (t := 8) [.int l1] [] (m_X7_isPerson x1 l1 μ e5) ck_X7_isPerson lk_X10_178 in_X7_isPerson se_X7_isPerson (kd_of e5) ⟨rfl, by decide, by decide⟩ rfl rfl (Nat.le_of_ble_eq_true rfl) ⟨by decide, by decide⟩ ⟨Nat.zero_le _, Nat.zero_le _⟩ dX10_now_5 ?_
  refine r_if_eq 20 dX10_now_8 (by decide) (fun c8 => ?_) (fun c8 => ?_)
  · have h := Sat_pos c8 h
    refine r_bipush (v := -2) dX10_now_20 (by decide) ?_
    exact r_ireturn rfl (by rw [← Sat_eq h]; exact ⟨rfl, rfl⟩) dX10_now_22
  · have h := Sat_neg c8 h
    refine r_iload_n dX10_now_11 2 rfl ?_
    refine r_if_lt 20 dX10_now_12 (by decide) (fun c12 => ?_) (fun c12 => ?_)
    · have h := Sat_pos c12 h
      refine r_bipush (v := -2) dX10_now_20 (by decide) ?_
      exact r_ireturn rfl (by rw [← Sat_eq h]; exact ⟨rfl, rfl⟩) dX10_now_22
    · have h := Sat_neg c12 h
      refine r_iload_n dX10_now_15 2 rfl ?_
      refine r_iconst (v := 1) dX10_now_16 (by decide) ?_
      refine r_icmp_le 23 dX10_now_17 (by decide) (fun c17 => ?_) (fun c17 => ?_)
      · have h := Sat_pos c17 h
        refine r_aload_n dX10_now_23 0 rfl ?_
        obtain ⟨x24, e24, h⟩ := Sat_bind h
        refine r_getP fk_X10_35 rfl e24 dX10_now_24 ?_
        obtain ⟨x27, e27, h⟩ := Sat_bind h
        refine r_getI fk_X10_125 rfl e27 dX10_now_27 ?_
        refine r_if_ne 35 dX10_now_30 (by decide) (fun c30 => ?_) (fun c30 => ?_)
        · have h := Sat_neg c30 h
          refine r_iload_n dX10_now_35 2 rfl ?_
          refine r_if_ne 50 dX10_now_36 (by decide) (fun c36 => ?_) (fun c36 => ?_)
          · have h := Sat_neg c36 h
            refine r_aload_n dX10_now_50 0 rfl ?_
            obtain ⟨x51, e51, h⟩ := Sat_bind h
            refine r_getP fk_X10_35 rfl e51 dX10_now_51 ?_
            obtain ⟨x54, e54, h⟩ := Sat_bind h
            refine r_getI fk_X10_428 rfl e54 dX10_now_54 ?_
            refine r_iload_n dX10_now_57 1 rfl ?_
            obtain ⟨x58, e58, h⟩ := Sat_bind h
            refine r_cS [.int x54, .int l1] [] (m_X9_dreamOf x54 l1 μ e58) ck_X9_dreamOf lk_X10_199 st_X9_dreamOf rfl rfl (Nat.le_of_ble_eq_true rfl) ⟨by decide, by decide⟩ ⟨Nat.zero_le _, Nat.zero_le _⟩ dX10_now_58 ?_
            exact r_ireturn rfl (by rw [← Sat_eq h]; exact ⟨rfl, rfl⟩) dX10_now_61
          · have h := Sat_pos c36 h
            refine r_aload_n dX10_now_39 0 rfl ?_
            obtain ⟨x40, e40, h⟩ := Sat_bind h
            refine r_getP fk_X10_35 rfl e40 dX10_now_40 ?_
            refine r_iload_n dX10_now_43 1 rfl ?_
            obtain ⟨x44, e44, h⟩ := Sat_bind h
            refine r_cV (t := 4) [.int l1] [] (m_X3_knownTo x40 l1 μ e44) ck_X3_knownTo lk_X10_425 in_X3_knownTo se_X3_knownTo (kd_of e44) ⟨rfl, by decide, by decide⟩ rfl rfl (Nat.le_of_ble_eq_true rfl) ⟨by decide, by decide⟩ ⟨Nat.zero_le _, Nat.zero_le _⟩ dX10_now_44 ?_
            refine r_goto 61 dX10_now_47 (by decide) ?_
            exact r_ireturn rfl (by rw [← Sat_eq h]; exact ⟨rfl, rfl⟩) dX10_now_61
        · have h := Sat_pos c30 h
          refine r_iconst (v := -1) dX10_now_33 (by decide) ?_
          exact r_ireturn rfl (by rw [← Sat_eq h]; exact ⟨rfl, rfl⟩) dX10_now_34
      · have h := Sat_neg c17 h
        refine r_bipush (v := -2) dX10_now_20 (by decide) ?_
        exact r_ireturn rfl (by rw [← Sat_eq h]; exact ⟨rfl, rfl⟩) dX10_now_22
theorem dX10_numberOnTape_0 : decode cX10_numberOnTape 0 = .ok (.aload_n 0, 1) := by decide +kernel
theorem dX10_numberOnTape_1 : decode cX10_numberOnTape 1 = .ok (.getfield 10, 3) := by decide +kernel
theorem dX10_numberOnTape_4 : decode cX10_numberOnTape 4 = .ok (.getfield 137, 3) := by decide +kernel
theorem dX10_numberOnTape_7 : decode cX10_numberOnTape 7 = .ok (.aload_n 0, 1) := by decide +kernel
theorem dX10_numberOnTape_8 : decode cX10_numberOnTape 8 = .ok (.getfield 63, 3) := by decide +kernel
theorem dX10_numberOnTape_11 : decode cX10_numberOnTape 11 = .ok (.getfield 153, 3) := by decide +kernel
theorem dX10_numberOnTape_14 : decode cX10_numberOnTape 14 = .ok (.if_icmp .eq 5, 3) := by decide +kernel
theorem dX10_numberOnTape_17 : decode cX10_numberOnTape 17 = .ok (.iconst (-1), 1) := by decide +kernel
theorem dX10_numberOnTape_18 : decode cX10_numberOnTape 18 = .ok (.ireturn, 1) := by decide +kernel
theorem dX10_numberOnTape_19 : decode cX10_numberOnTape 19 = .ok (.iconst (-1), 1) := by decide +kernel
theorem dX10_numberOnTape_20 : decode cX10_numberOnTape 20 = .ok (.istore_n 1, 1) := by decide +kernel
theorem dX10_numberOnTape_21 : decode cX10_numberOnTape 21 = .ok (.iconst 0, 1) := by decide +kernel
theorem dX10_numberOnTape_22 : decode cX10_numberOnTape 22 = .ok (.istore_n 2, 1) := by decide +kernel
theorem dX10_numberOnTape_23 : decode cX10_numberOnTape 23 = .ok (.iload_n 2, 1) := by decide +kernel
theorem dX10_numberOnTape_24 : decode cX10_numberOnTape 24 = .ok (.aload_n 0, 1) := by decide +kernel
theorem dX10_numberOnTape_25 : decode cX10_numberOnTape 25 = .ok (.getfield 63, 3) := by decide +kernel
theorem dX10_numberOnTape_28 : decode cX10_numberOnTape 28 = .ok (.getfield 153, 3) := by decide +kernel
theorem dX10_numberOnTape_31 : decode cX10_numberOnTape 31 = .ok (.if_icmp .ge 74, 3) := by decide +kernel
theorem dX10_numberOnTape_34 : decode cX10_numberOnTape 34 = .ok (.aload_n 0, 1) := by decide +kernel
theorem dX10_numberOnTape_35 : decode cX10_numberOnTape 35 = .ok (.getfield 10, 3) := by decide +kernel
theorem dX10_numberOnTape_38 : decode cX10_numberOnTape 38 = .ok (.iload_n 2, 1) := by decide +kernel
theorem dX10_numberOnTape_39 : decode cX10_numberOnTape 39 = .ok (.invokevirtual 205, 3) := by decide +kernel
theorem dX10_numberOnTape_42 : decode cX10_numberOnTape 42 = .ok (.istore_n 3, 1) := by decide +kernel
theorem dX10_numberOnTape_43 : decode cX10_numberOnTape 43 = .ok (.aload_n 0, 1) := by decide +kernel
theorem dX10_numberOnTape_44 : decode cX10_numberOnTape 44 = .ok (.getfield 63, 3) := by decide +kernel
theorem dX10_numberOnTape_47 : decode cX10_numberOnTape 47 = .ok (.iload_n 2, 1) := by decide +kernel
theorem dX10_numberOnTape_48 : decode cX10_numberOnTape 48 = .ok (.invokevirtual 182, 3) := by decide +kernel
theorem dX10_numberOnTape_51 : decode cX10_numberOnTape 51 = .ok (.iload_n 3, 1) := by decide +kernel
theorem dX10_numberOnTape_52 : decode cX10_numberOnTape 52 = .ok (.bipush 111, 2) := by decide +kernel
theorem dX10_numberOnTape_54 : decode cX10_numberOnTape 54 = .ok (.if_icmp .ne 7, 3) := by decide +kernel
theorem dX10_numberOnTape_57 : decode cX10_numberOnTape 57 = .ok (.iconst 1, 1) := by decide +kernel
theorem dX10_numberOnTape_58 : decode cX10_numberOnTape 58 = .ok (.goto 4, 3) := by decide +kernel
theorem dX10_numberOnTape_61 : decode cX10_numberOnTape 61 = .ok (.iconst 0, 1) := by decide +kernel
theorem dX10_numberOnTape_62 : decode cX10_numberOnTape 62 = .ok (.if_icmp .eq 5, 3) := by decide +kernel
theorem dX10_numberOnTape_65 : decode cX10_numberOnTape 65 = .ok (.iconst (-1), 1) := by decide +kernel
theorem dX10_numberOnTape_66 : decode cX10_numberOnTape 66 = .ok (.ireturn, 1) := by decide +kernel
theorem dX10_numberOnTape_67 : decode cX10_numberOnTape 67 = .ok (.iload_n 3, 1) := by decide +kernel
theorem dX10_numberOnTape_68 : decode cX10_numberOnTape 68 = .ok (.bipush 111, 2) := by decide +kernel
theorem dX10_numberOnTape_70 : decode cX10_numberOnTape 70 = .ok (.if_icmp .eq 29, 3) := by decide +kernel
theorem dX10_numberOnTape_73 : decode cX10_numberOnTape 73 = .ok (.aload_n 0, 1) := by decide +kernel
theorem dX10_numberOnTape_74 : decode cX10_numberOnTape 74 = .ok (.getfield 63, 3) := by decide +kernel
theorem dX10_numberOnTape_77 : decode cX10_numberOnTape 77 = .ok (.iload_n 3, 1) := by decide +kernel
theorem dX10_numberOnTape_78 : decode cX10_numberOnTape 78 = .ok (.bipush 48, 2) := by decide +kernel
theorem dX10_numberOnTape_80 : decode cX10_numberOnTape 80 = .ok (.isub, 1) := by decide +kernel
theorem dX10_numberOnTape_81 : decode cX10_numberOnTape 81 = .ok (.invokevirtual 178, 3) := by decide +kernel
theorem dX10_numberOnTape_84 : decode cX10_numberOnTape 84 = .ok (.ifCond .ne 5, 3) := by decide +kernel
theorem dX10_numberOnTape_87 : decode cX10_numberOnTape 87 = .ok (.iconst (-1), 1) := by decide +kernel
theorem dX10_numberOnTape_88 : decode cX10_numberOnTape 88 = .ok (.ireturn, 1) := by decide +kernel
theorem dX10_numberOnTape_89 : decode cX10_numberOnTape 89 = .ok (.iload_n 1, 1) := by decide +kernel
theorem dX10_numberOnTape_90 : decode cX10_numberOnTape 90 = .ok (.iload_n 2, 1) := by decide +kernel
theorem dX10_numberOnTape_91 : decode cX10_numberOnTape 91 = .ok (.iload_n 3, 1) := by decide +kernel
theorem dX10_numberOnTape_92 : decode cX10_numberOnTape 92 = .ok (.bipush 48, 2) := by decide +kernel
theorem dX10_numberOnTape_94 : decode cX10_numberOnTape 94 = .ok (.isub, 1) := by decide +kernel
theorem dX10_numberOnTape_95 : decode cX10_numberOnTape 95 = .ok (.invokestatic 207, 3) := by decide +kernel
theorem dX10_numberOnTape_98 : decode cX10_numberOnTape 98 = .ok (.istore_n 1, 1) := by decide +kernel
theorem dX10_numberOnTape_99 : decode cX10_numberOnTape 99 = .ok (.iinc 2 1, 3) := by decide +kernel
theorem dX10_numberOnTape_102 : decode cX10_numberOnTape 102 = .ok (.goto (-79), 3) := by decide +kernel
theorem dX10_numberOnTape_105 : decode cX10_numberOnTape 105 = .ok (.aload_n 0, 1) := by decide +kernel
theorem dX10_numberOnTape_106 : decode cX10_numberOnTape 106 = .ok (.getfield 63, 3) := by decide +kernel
theorem dX10_numberOnTape_109 : decode cX10_numberOnTape 109 = .ok (.getfield 100, 3) := by decide +kernel
theorem dX10_numberOnTape_112 : decode cX10_numberOnTape 112 = .ok (.iload_n 1, 1) := by decide +kernel
theorem dX10_numberOnTape_113 : decode cX10_numberOnTape 113 = .ok (.invokevirtual 211, 3) := by decide +kernel
theorem dX10_numberOnTape_116 : decode cX10_numberOnTape 116 = .ok (.ireturn, 1) := by decide +kernel
noncomputable def f_X10_numberOnTape_J105 (a0 : Nat) (l1 : Int32) (μ : Mm) : Option Int32 :=
  (gf_P 11 13 a0 μ).bind fun x106 => (gf_P 8 8 x106 μ).bind fun x109 => (f_X9_numberOf x109 l1 μ).bind fun x113 => some x113
noncomputable def f_X10_numberOnTape_J99 (a0 : Nat) (l1 : Int32) (l2 : Int32) (μ : Mm) : Option ((Int32 × Int32) ⊕ ((Unit) ⊕ ((Unit) ⊕ (Int32)))) :=
  (some (l2 + (1 : Int32))).bind fun v99 => some (.inl (l1, v99))
noncomputable def f_X10_numberOnTape_J62 (a0 : Nat) (l1 : Int32) (l2 : Int32) (l3 : Int32) (k0 : Int32) (k1 : Int32) (μ : Mm) : Option ((Int32 × Int32) ⊕ ((Unit) ⊕ ((Unit) ⊕ (Int32)))) :=
  if k0 = k1 then if l3 = (111 : Int32) then f_X10_numberOnTape_J99 a0 l1 l2 μ else (gf_P 11 13 a0 μ).bind fun x74 => (f_X7_isPerson x74 (l3 - (48 : Int32)) μ).bind fun x81 => if x81 = 0 then some (.inr (.inr (.inl ()))) else (f_X9_withDream l1 l2 (l3 - (48 : Int32)) μ).bind fun x95 => f_X10_numberOnTape_J99 a0 x95 l2 μ else some (.inr (.inl ()))
noncomputable def f_X10_numberOnTape_L23 (a0 : Nat) (μ : Mm) (s23 : Int32 × Int32) : Option ((Int32 × Int32) ⊕ ((Unit) ⊕ ((Unit) ⊕ (Int32)))) :=
  (gf_P 11 13 a0 μ).bind fun x25 => (gf_I 8 9 x25 μ).bind fun x28 => if x28 ≤ s23.2 then some (.inr (.inr (.inr s23.1))) else (gf_P 11 0 a0 μ).bind fun x35 => (f_X5_at x35 s23.2 μ).bind fun x39 => (gf_P 11 13 a0 μ).bind fun x44 => (f_X7_isAlone x44 s23.2 μ).bind fun x48 => if x39 = (111 : Int32) then f_X10_numberOnTape_J62 a0 s23.1 s23.2 x39 x48 (1 : Int32) μ else f_X10_numberOnTape_J62 a0 s23.1 s23.2 x39 x48 (0 : Int32) μ
noncomputable def f_X10_numberOnTape (a0 : Nat) (μ : Mm) : Option Int32 :=
  if (mm_K μ a0).1 = 11 then (gf_P 11 0 a0 μ).bind fun x1 => (gf_I 6 1 x1 μ).bind fun x4 => (gf_P 11 13 a0 μ).bind fun x8 => (gf_I 8 9 x8 μ).bind fun x11 => if x4 = x11 then (whl (f_X10_numberOnTape_L23 a0 μ) ((-1 : Int32), (0 : Int32))).bind (sm (fun b23 => some (-1 : Int32)) (sm (fun b23 => some (-1 : Int32)) (fun b23 => f_X10_numberOnTape_J105 a0 b23 μ))) else some (-1 : Int32) else none
abbrev Rn_X10_numberOnTape (G : Gv) (Q : Option Value → Mm → Prop) (pc : Nat) (lv : List (Nat × Value)) (st : List Value) (μ : Mm) : Prop := Rn G RX10 cX10_numberOnTape 4 (some .int) "numberOnTape" (rmd 2 0 0) (Zm G 0 0 Q) 0 0 pc lv st μ
set_option maxRecDepth 100000 in
set_option maxHeartbeats 4000000 in
theorem m_X10_numberOnTape {G : Gv} (a0 : Nat) (μ : Mm) {r : Int32} (hx : f_X10_numberOnTape a0 μ = some r) : Mt G yX10_numberOnTape cX10_numberOnTape 4 (some .int) 2 0 0 [.ref a0] μ (fun v μ' => v = some (.int r) ∧ μ' = μ) := by
  refine Mt.of (by decide) (Nat.le_of_ble_eq_true rfl) ?_
  show Rn_X10_numberOnTape G (fun v μ' => v = some (.int r) ∧ μ' = μ) 0 [(0, .ref a0)] [] μ
  obtain ⟨_, h⟩ := Sat_ifp (show Sat (f_X10_numberOnTape a0 μ) (fun x => x = r) from ⟨_, hx, rfl⟩)
  have J105 : ∀ (a0_105 : Nat) (l1_105 : Int32), Sat (f_X10_numberOnTape_J105 a0_105 l1_105 μ) (fun x => x = r) → Rn_X10_numberOnTape G (fun v μ' => v = some (.int r) ∧ μ' = μ) 105 [(0, .ref a0_105), (1, .int l1_105)] [] μ := by
    intro a0_105 l1_105 h
    refine r_aload_n dX10_numberOnTape_105 0 rfl ?_
    obtain ⟨x106, e106, h⟩ := Sat_bind h
    refine r_getP fk_X10_63 rfl e106 dX10_numberOnTape_106 ?_
    obtain ⟨x109, e109, h⟩ := Sat_bind h
    refine r_getP fk_X10_100 rfl e109 dX10_numberOnTape_109 ?_
    refine r_iload_n dX10_numberOnTape_112 1 rfl ?_
    obtain ⟨x113, e113, h⟩ := Sat_bind h
    refine r_cV (t := 10) [.int l1_105] [] (m_X9_numberOf x109 l1_105 μ e113) ck_X9_numberOf lk_X10_211 in_X9_numberOf se_X9_numberOf (kd_of e113) ⟨rfl, by decide, by decide⟩ rfl rfl (Nat.le_of_ble_eq_true rfl) ⟨by decide, by decide⟩ ⟨Nat.zero_le _, Nat.zero_le _⟩ dX10_numberOnTape_113 ?_
    exact r_ireturn rfl (by rw [← Sat_eq h]; exact ⟨rfl, rfl⟩) dX10_numberOnTape_116
  refine r_aload_n dX10_numberOnTape_0 0 rfl ?_
  obtain ⟨x1, e1, h⟩ := Sat_bind h
  refine r_getP fk_X10_10 rfl e1 dX10_numberOnTape_1 ?_
  obtain ⟨x4, e4, h⟩ := Sat_bind h
  refine r_getI fk_X10_137 rfl e4 dX10_numberOnTape_4 ?_
  refine r_aload_n dX10_numberOnTape_7 0 rfl ?_
  obtain ⟨x8, e8, h⟩ := Sat_bind h
  refine r_getP fk_X10_63 rfl e8 dX10_numberOnTape_8 ?_
  obtain ⟨x11, e11, h⟩ := Sat_bind h
  refine r_getI fk_X10_153 rfl e11 dX10_numberOnTape_11 ?_
  refine r_icmp_eq 19 dX10_numberOnTape_14 (by decide) (fun c14 => ?_) (fun c14 => ?_)
  · have h := Sat_pos c14 h
    refine r_iconst (v := -1) dX10_numberOnTape_19 (by decide) ?_
    refine r_istore_n (lv' := [(1, .int (-1 : Int32)), (0, .ref a0)]) dX10_numberOnTape_20 rfl (by decide) rfl ?_
    refine r_iconst (v := 0) dX10_numberOnTape_21 (by decide) ?_
    refine r_istore_n (lv' := [(2, .int (0 : Int32)), (1, .int (-1 : Int32)), (0, .ref a0)]) dX10_numberOnTape_22 rfl (by decide) rfl ?_
    refine r_sub (lv' := [(0, .ref a0), (1, .int (-1 : Int32)), (2, .int (0 : Int32))]) [2, 1, 0] rfl ?_
    refine whl_K (s0 := (((-1 : Int32), (0 : Int32)) : Int32 × Int32)) (RR := fun (s23 : Int32 × Int32) => Rn_X10_numberOnTape G (fun v μ' => v = some (.int r) ∧ μ' = μ) 23 [(0, .ref a0), (1, .int s23.1), (2, .int s23.2)] [] μ) ?_ (Sat_bindK h)
    intro s23 K23 hI23 hX23 h
    have J99 : ∀ (l1_99 : Int32) (l2_99 : Int32), Sat (f_X10_numberOnTape_J99 a0 l1_99 l2_99 μ) K23 → Rn_X10_numberOnTape G (fun v μ' => v = some (.int r) ∧ μ' = μ) 99 [(0, .ref a0), (1, .int l1_99), (2, .int l2_99)] [] μ := by
      intro l1_99 l2_99 h
      obtain ⟨v99, e99, h⟩ := Sat_bind h
      refine r_iinc (j := 2) (v := v99) (lv' := [(2, .int v99), (0, .ref a0), (1, .int l1_99)]) dX10_numberOnTape_99 rfl (iinc_v e99 (by decide)) (by decide) rfl ?_
      refine r_goto 23 dX10_numberOnTape_102 (by decide) ?_
      exact r_sub [1, 2, 0] rfl (hI23 _ (Sat_some h))
    have J62 : ∀ (l1_62 : Int32) (l2_62 : Int32) (l3_62 : Int32) (k0_62 : Int32) (k1_62 : Int32), Sat (f_X10_numberOnTape_J62 a0 l1_62 l2_62 l3_62 k0_62 k1_62 μ) K23 → Rn_X10_numberOnTape G (fun v μ' => v = some (.int r) ∧ μ' = μ) 62 [(0, .ref a0), (1, .int l1_62), (2, .int l2_62), (3, .int l3_62)] [.int k1_62, .int k0_62] μ := by
      intro l1_62 l2_62 l3_62 k0_62 k1_62 h
      refine r_icmp_eq 67 dX10_numberOnTape_62 (by decide) (fun c62 => ?_) (fun c62 => ?_)
      · have h := Sat_pos c62 h
        refine r_iload_n dX10_numberOnTape_67 3 rfl ?_
        refine r_bipush (v := 111) dX10_numberOnTape_68 (by decide) ?_
        refine r_icmp_eq 99 dX10_numberOnTape_70 (by decide) (fun c70 => ?_) (fun c70 => ?_)
        · have h := Sat_pos c70 h
          exact r_sub [0, 1, 2] rfl (J99 l1_62 l2_62 h)
        · have h := Sat_neg c70 h
          refine r_aload_n dX10_numberOnTape_73 0 rfl ?_
          obtain ⟨x74, e74, h⟩ := Sat_bind h
          refine r_getP fk_X10_63 rfl e74 dX10_numberOnTape_74 ?_
          refine r_iload_n dX10_numberOnTape_77 3 rfl ?_
          refine r_bipush (v := 48) dX10_numberOnTape_78 (by decide) ?_
          refine r_isub dX10_numberOnTape_80 ?_
          obtain ⟨x81, e81, h⟩ := Sat_bind h
          refine r_cV (t := 8) [.int (l3_62 - (48 : Int32))] [] (m_X7_isPerson x74 (l3_62 - (48 : Int32)) μ e81) ck_X7_isPerson lk_X10_178 in_X7_isPerson se_X7_isPerson (kd_of e81) ⟨rfl, by decide, by decide⟩ rfl rfl (Nat.le_of_ble_eq_true rfl) ⟨by decide, by decide⟩ ⟨Nat.zero_le _, Nat.zero_le _⟩ dX10_numberOnTape_81 ?_
          refine r_if_ne 89 dX10_numberOnTape_84 (by decide) (fun c84 => ?_) (fun c84 => ?_)
          · have h := Sat_neg c84 h
            refine r_iload_n dX10_numberOnTape_89 1 rfl ?_
            refine r_iload_n dX10_numberOnTape_90 2 rfl ?_
            refine r_iload_n dX10_numberOnTape_91 3 rfl ?_
            refine r_bipush (v := 48) dX10_numberOnTape_92 (by decide) ?_
            refine r_isub dX10_numberOnTape_94 ?_
            obtain ⟨x95, e95, h⟩ := Sat_bind h
            refine r_cS [.int l1_62, .int l2_62, .int (l3_62 - (48 : Int32))] [] (m_X9_withDream l1_62 l2_62 (l3_62 - (48 : Int32)) μ e95) ck_X9_withDream lk_X10_207 st_X9_withDream rfl rfl (Nat.le_of_ble_eq_true rfl) ⟨by decide, by decide⟩ ⟨Nat.zero_le _, Nat.zero_le _⟩ dX10_numberOnTape_95 ?_
            refine r_istore_n (lv' := [(1, .int x95), (0, .ref a0), (2, .int l2_62), (3, .int l3_62)]) dX10_numberOnTape_98 rfl (by decide) rfl ?_
            exact r_sub [1, 0, 2] rfl (J99 x95 l2_62 h)
          · have h := Sat_pos c84 h
            have h := hX23 _ (Sat_some h)
            refine r_iconst (v := -1) dX10_numberOnTape_87 (by decide) ?_
            exact r_ireturn rfl (by rw [← Sat_eq h]; exact ⟨rfl, rfl⟩) dX10_numberOnTape_88
      · have h := Sat_neg c62 h
        have h := hX23 _ (Sat_some h)
        refine r_iconst (v := -1) dX10_numberOnTape_65 (by decide) ?_
        exact r_ireturn rfl (by rw [← Sat_eq h]; exact ⟨rfl, rfl⟩) dX10_numberOnTape_66
    refine r_iload_n dX10_numberOnTape_23 2 rfl ?_
    refine r_aload_n dX10_numberOnTape_24 0 rfl ?_
    obtain ⟨x25, e25, h⟩ := Sat_bind h
    refine r_getP fk_X10_63 rfl e25 dX10_numberOnTape_25 ?_
    obtain ⟨x28, e28, h⟩ := Sat_bind h
    refine r_getI fk_X10_153 rfl e28 dX10_numberOnTape_28 ?_
    refine r_icmp_ge 105 dX10_numberOnTape_31 (by decide) (fun c31 => ?_) (fun c31 => ?_)
    · have h := Sat_pos c31 h
      have h := hX23 _ (Sat_some h)
      exact r_sub [0, 1] rfl (J105 a0 s23.1 h)
    · have h := Sat_neg c31 h
      refine r_aload_n dX10_numberOnTape_34 0 rfl ?_
      obtain ⟨x35, e35, h⟩ := Sat_bind h
      refine r_getP fk_X10_10 rfl e35 dX10_numberOnTape_35 ?_
      refine r_iload_n dX10_numberOnTape_38 2 rfl ?_
      obtain ⟨x39, e39, h⟩ := Sat_bind h
      refine r_cV (t := 6) [.int s23.2] [] (m_X5_at x35 s23.2 μ e39) ck_X5_at lk_X10_205 in_X5_at se_X5_at (kd_of e39) ⟨rfl, by decide, by decide⟩ rfl rfl (Nat.le_of_ble_eq_true rfl) ⟨by decide, by decide⟩ ⟨Nat.zero_le _, Nat.zero_le _⟩ dX10_numberOnTape_39 ?_
      refine r_istore_n (lv' := [(3, .int x39), (0, .ref a0), (1, .int s23.1), (2, .int s23.2)]) dX10_numberOnTape_42 rfl (by decide) rfl ?_
      refine r_aload_n dX10_numberOnTape_43 1 rfl ?_
      obtain ⟨x44, e44, h⟩ := Sat_bind h
      refine r_getP fk_X10_63 rfl e44 dX10_numberOnTape_44 ?_
      refine r_iload_n dX10_numberOnTape_47 3 rfl ?_
      obtain ⟨x48, e48, h⟩ := Sat_bind h
      refine r_cV (t := 8) [.int s23.2] [] (m_X7_isAlone x44 s23.2 μ e48) ck_X7_isAlone lk_X10_182 in_X7_isAlone se_X7_isAlone (kd_of e48) ⟨rfl, by decide, by decide⟩ rfl rfl (Nat.le_of_ble_eq_true rfl) ⟨by decide, by decide⟩ ⟨Nat.zero_le _, Nat.zero_le _⟩ dX10_numberOnTape_48 ?_
      refine r_iload_n dX10_numberOnTape_51 0 rfl ?_
      refine r_bipush (v := 111) dX10_numberOnTape_52 (by decide) ?_
      refine r_icmp_ne 61 dX10_numberOnTape_54 (by decide) (fun c54 => ?_) (fun c54 => ?_)
      · have h := Sat_neg c54 h
        refine r_iconst (v := 0) dX10_numberOnTape_61 (by decide) ?_
        exact r_sub [1, 2, 3, 0] rfl (J62 s23.1 s23.2 x39 x48 (0 : Int32) h)
      · have h := Sat_pos c54 h
        refine r_iconst (v := 1) dX10_numberOnTape_57 (by decide) ?_
        refine r_goto 62 dX10_numberOnTape_58 (by decide) ?_
        exact r_sub [1, 2, 3, 0] rfl (J62 s23.1 s23.2 x39 x48 (1 : Int32) h)
  · have h := Sat_neg c14 h
    refine r_iconst (v := -1) dX10_numberOnTape_17 (by decide) ?_
    exact r_ireturn rfl (by rw [← Sat_eq h]; exact ⟨rfl, rfl⟩) dX10_numberOnTape_18
theorem dX10_number_0 : decode cX10_number 0 = .ok (.aload_n 0, 1) := by decide +kernel
theorem dX10_number_1 : decode cX10_number 1 = .ok (.invokevirtual 202, 3) := by decide +kernel
theorem dX10_number_4 : decode cX10_number 4 = .ok (.istore_n 1, 1) := by decide +kernel
theorem dX10_number_5 : decode cX10_number 5 = .ok (.aload_n 0, 1) := by decide +kernel
theorem dX10_number_6 : decode cX10_number 6 = .ok (.getfield 10, 3) := by decide +kernel
theorem dX10_number_9 : decode cX10_number 9 = .ok (.iconst 0, 1) := by decide +kernel
theorem dX10_number_10 : decode cX10_number 10 = .ok (.putfield 137, 3) := by decide +kernel
theorem dX10_number_13 : decode cX10_number 13 = .ok (.iload_n 1, 1) := by decide +kernel
theorem dX10_number_14 : decode cX10_number 14 = .ok (.ireturn, 1) := by decide +kernel
noncomputable def f_X10_number (a0 : Nat) (μ : Mm) : Option (Int32 × Mm) :=
  if (mm_K μ a0).1 = 11 then (f_X10_numberOnTape a0 μ).bind fun x1 => (gf_P 11 0 a0 μ).bind fun x6 => (pf_I 6 1 x6 (0 : Int32) μ).bind fun μ10 => some (x1, μ10) else none
abbrev Rn_X10_number (G : Gv) (Q : Option Value → Mm → Prop) (pc : Nat) (lv : List (Nat × Value)) (st : List Value) (μ : Mm) : Prop := Rn G RX10 cX10_number 2 (some .int) "number" (rmd 3 0 0) (Zm G 0 0 Q) 0 0 pc lv st μ
set_option maxRecDepth 100000 in
set_option maxHeartbeats 4000000 in
theorem m_X10_number {G : Gv} (a0 : Nat) (μ : Mm) {r : (Int32 × Mm)} (hx : f_X10_number a0 μ = some r) : Mt G yX10_number cX10_number 2 (some .int) 3 0 0 [.ref a0] μ (fun v μ' => v = some (.int r.1) ∧ μ' = r.2) := by
  refine Mt.of (by decide) (Nat.le_of_ble_eq_true rfl) ?_
  show Rn_X10_number G (fun v μ' => v = some (.int r.1) ∧ μ' = r.2) 0 [(0, .ref a0)] [] μ
  obtain ⟨_, h⟩ := Sat_ifp (show Sat (f_X10_number a0 μ) (fun x => x = r) from ⟨_, hx, rfl⟩)
  refine r_aload_n dX10_number_0 0 rfl ?_
  obtain ⟨x1, e1, h⟩ := Sat_bind h
  refine r_cV (t := 11) [] [] (m_X10_numberOnTape a0 μ e1) ck_X10_numberOnTape lk_X10_202 in_X10_numberOnTape se_X10_numberOnTape (kd_of e1) ⟨rfl, by decide, by decide⟩ rfl rfl (Nat.le_of_ble_eq_true rfl) ⟨by decide, by decide⟩ ⟨Nat.zero_le _, Nat.zero_le _⟩ dX10_number_1 ?_
  refine r_istore_n (lv' := [(1, .int x1), (0, .ref a0)]) dX10_number_4 rfl (by decide) rfl ?_
  refine r_aload_n dX10_number_5 1 rfl ?_
  obtain ⟨x6, e6, h⟩ := Sat_bind h
  refine r_getP fk_X10_10 rfl e6 dX10_number_6 ?_
  refine r_iconst (v := 0) dX10_number_9 (by decide) ?_
  obtain ⟨μ10, e10, h⟩ := Sat_bind h
  refine r_putI fk_X10_137 rfl rfl e10 dX10_number_10 ?_
  refine r_iload_n dX10_number_13 0 rfl ?_
  exact r_ireturn rfl (by rw [← Sat_eq h]; exact ⟨rfl, rfl⟩) dX10_number_14
theorem dX7_firstWakefulDay_0 : decode cX7_firstWakefulDay 0 = .ok (.iload_n 2, 1) := by decide +kernel
theorem dX7_firstWakefulDay_1 : decode cX7_firstWakefulDay 1 = .ok (.istore_n 3, 1) := by decide +kernel
theorem dX7_firstWakefulDay_2 : decode cX7_firstWakefulDay 2 = .ok (.iload_n 3, 1) := by decide +kernel
theorem dX7_firstWakefulDay_3 : decode cX7_firstWakefulDay 3 = .ok (.bipush 28, 2) := by decide +kernel
theorem dX7_firstWakefulDay_5 : decode cX7_firstWakefulDay 5 = .ok (.if_icmp .ge 23, 3) := by decide +kernel
theorem dX7_firstWakefulDay_8 : decode cX7_firstWakefulDay 8 = .ok (.aload_n 0, 1) := by decide +kernel
theorem dX7_firstWakefulDay_9 : decode cX7_firstWakefulDay 9 = .ok (.iload_n 3, 1) := by decide +kernel
theorem dX7_firstWakefulDay_10 : decode cX7_firstWakefulDay 10 = .ok (.invokevirtual 92, 3) := by decide +kernel
theorem dX7_firstWakefulDay_13 : decode cX7_firstWakefulDay 13 = .ok (.iload_n 1, 1) := by decide +kernel
theorem dX7_firstWakefulDay_14 : decode cX7_firstWakefulDay 14 = .ok (.ishr, 1) := by decide +kernel
theorem dX7_firstWakefulDay_15 : decode cX7_firstWakefulDay 15 = .ok (.iconst 1, 1) := by decide +kernel
theorem dX7_firstWakefulDay_16 : decode cX7_firstWakefulDay 16 = .ok (.iand, 1) := by decide +kernel
theorem dX7_firstWakefulDay_17 : decode cX7_firstWakefulDay 17 = .ok (.ifCond .ne 5, 3) := by decide +kernel
theorem dX7_firstWakefulDay_20 : decode cX7_firstWakefulDay 20 = .ok (.iload_n 3, 1) := by decide +kernel
theorem dX7_firstWakefulDay_21 : decode cX7_firstWakefulDay 21 = .ok (.ireturn, 1) := by decide +kernel
theorem dX7_firstWakefulDay_22 : decode cX7_firstWakefulDay 22 = .ok (.iinc 3 1, 3) := by decide +kernel
theorem dX7_firstWakefulDay_25 : decode cX7_firstWakefulDay 25 = .ok (.goto (-23), 3) := by decide +kernel
theorem dX7_firstWakefulDay_28 : decode cX7_firstWakefulDay 28 = .ok (.iconst (-1), 1) := by decide +kernel
theorem dX7_firstWakefulDay_29 : decode cX7_firstWakefulDay 29 = .ok (.ireturn, 1) := by decide +kernel
noncomputable def f_X7_firstWakefulDay_L2 (a0 : Nat) (l1 : Int32) (μ : Mm) (s2 : Int32) : Option ((Int32) ⊕ ((Int32) ⊕ (Unit))) :=
  if (28 : Int32) ≤ s2 then some (.inr (.inr ())) else (f_X7_dullOn a0 s2 μ).bind fun x10 => if ((x10 >>> (l1 &&& 31)) &&& (1 : Int32)) = 0 then some (.inr (.inl s2)) else (some (s2 + (1 : Int32))).bind fun v22 => some (.inl v22)
noncomputable def f_X7_firstWakefulDay (a0 : Nat) (l1 : Int32) (l2 : Int32) (μ : Mm) : Option Int32 :=
  if (mm_K μ a0).1 = 8 then (whl (f_X7_firstWakefulDay_L2 a0 l1 μ) l2).bind (sm (fun b2 => some b2) (fun b2 => some (-1 : Int32))) else none
abbrev Rn_X7_firstWakefulDay (G : Gv) (Q : Option Value → Mm → Prop) (pc : Nat) (lv : List (Nat × Value)) (st : List Value) (μ : Mm) : Prop := Rn G RX7 cX7_firstWakefulDay 4 (some .int) "firstWakefulDay" (rmd 2 0 0) (Zm G 0 0 Q) 0 0 pc lv st μ
set_option maxRecDepth 100000 in
set_option maxHeartbeats 4000000 in
theorem m_X7_firstWakefulDay {G : Gv} (a0 : Nat) (l1 : Int32) (l2 : Int32) (μ : Mm) {r : Int32} (hx : f_X7_firstWakefulDay a0 l1 l2 μ = some r) : Mt G yX7_firstWakefulDay cX7_firstWakefulDay 4 (some .int) 2 0 0 [.ref a0, .int l1, .int l2] μ (fun v μ' => v = some (.int r) ∧ μ' = μ) := by
  refine Mt.of (by decide) (Nat.le_of_ble_eq_true rfl) ?_
  show Rn_X7_firstWakefulDay G (fun v μ' => v = some (.int r) ∧ μ' = μ) 0 [(0, .ref a0), (1, .int l1), (2, .int l2)] [] μ
  obtain ⟨_, h⟩ := Sat_ifp (show Sat (f_X7_firstWakefulDay a0 l1 l2 μ) (fun x => x = r) from ⟨_, hx, rfl⟩)
  refine r_iload_n dX7_firstWakefulDay_0 2 rfl ?_
  refine r_istore_n (lv' := [(3, .int l2), (0, .ref a0), (1, .int l1), (2, .int l2)]) dX7_firstWakefulDay_1 rfl (by decide) rfl ?_
  refine r_sub (lv' := [(0, .ref a0), (1, .int l1), (3, .int l2)]) [1, 2, 0] rfl ?_
  refine whl_K (s0 := (l2 : Int32)) (RR := fun (s2 : Int32) => Rn_X7_firstWakefulDay G (fun v μ' => v = some (.int r) ∧ μ' = μ) 2 [(0, .ref a0), (1, .int l1), (3, .int s2)] [] μ) ?_ (Sat_bindK h)
  intro s2 K2 hI2 hX2 h
  refine r_iload_n dX7_firstWakefulDay_2 2 rfl ?_
  refine r_bipush (v := 28) dX7_firstWakefulDay_3 (by decide) ?_
  refine r_icmp_ge 28 dX7_firstWakefulDay_5 (by decide) (fun c5 => ?_) (fun c5 => ?_)
  · have h := Sat_pos c5 h
    have h := hX2 _ (Sat_some h)
    refine r_iconst (v := -1) dX7_firstWakefulDay_28 (by decide) ?_
    exact r_ireturn rfl (by rw [← Sat_eq h]; exact ⟨rfl, rfl⟩) dX7_firstWakefulDay_29
  · have h := Sat_neg c5 h
    refine r_aload_n dX7_firstWakefulDay_8 0 rfl ?_
    refine r_iload_n dX7_firstWakefulDay_9 2 rfl ?_
    obtain ⟨x10, e10, h⟩ := Sat_bind h
    refine r_cV (t := 8) [.int s2] [] (m_X7_dullOn a0 s2 μ e10) ck_X7_dullOn lk_X7_92 in_X7_dullOn se_X7_dullOn (kd_of e10) ⟨rfl, by decide, by decide⟩ rfl rfl (Nat.le_of_ble_eq_true rfl) ⟨by decide, by decide⟩ ⟨Nat.zero_le _, Nat.zero_le _⟩ dX7_firstWakefulDay_10 ?_
    refine r_iload_n dX7_firstWakefulDay_13 1 rfl ?_
    refine r_ishr dX7_firstWakefulDay_14 ?_
    refine r_iconst (v := 1) dX7_firstWakefulDay_15 (by decide) ?_
    refine r_iand dX7_firstWakefulDay_16 ?_
    refine r_if_ne 22 dX7_firstWakefulDay_17 (by decide) (fun c17 => ?_) (fun c17 => ?_)
    · have h := Sat_neg c17 h
      obtain ⟨v22, e22, h⟩ := Sat_bind h
      refine r_iinc (j := 2) (v := v22) (lv' := [(3, .int v22), (0, .ref a0), (1, .int l1)]) dX7_firstWakefulDay_22 rfl (iinc_v e22 (by decide)) (by decide) rfl ?_
      refine r_goto 2 dX7_firstWakefulDay_25 (by decide) ?_
      exact r_sub [1, 2, 0] rfl (hI2 _ (Sat_some h))
    · have h := Sat_pos c17 h
      have h := hX2 _ (Sat_some h)
      refine r_iload_n dX7_firstWakefulDay_20 2 rfl ?_
      exact r_ireturn rfl (by rw [← Sat_eq h]; exact ⟨rfl, rfl⟩) dX7_firstWakefulDay_21
theorem dX10_sendSign_0 : decode cX10_sendSign 0 = .ok (.iload_n 1, 1) := by decide +kernel
theorem dX10_sendSign_1 : decode cX10_sendSign 1 = .ok (.istore 4, 2) := by decide +kernel
theorem dX10_sendSign_3 : decode cX10_sendSign 3 = .ok (.iload_n 3, 1) := by decide +kernel
theorem dX10_sendSign_4 : decode cX10_sendSign 4 = .ok (.istore 5, 2) := by decide +kernel
theorem dX10_sendSign_6 : decode cX10_sendSign 6 = .ok (.aload_n 0, 1) := by decide +kernel
theorem dX10_sendSign_7 : decode cX10_sendSign 7 = .ok (.getfield 43, 3) := by decide +kernel
theorem dX10_sendSign_10 : decode cX10_sendSign 10 = .ok (.iconst 0, 1) := by decide +kernel
theorem dX10_sendSign_11 : decode cX10_sendSign 11 = .ok (.iload_n 1, 1) := by decide +kernel
theorem dX10_sendSign_12 : decode cX10_sendSign 12 = .ok (.iastore, 1) := by decide +kernel
theorem dX10_sendSign_13 : decode cX10_sendSign 13 = .ok (.iconst 1, 1) := by decide +kernel
theorem dX10_sendSign_14 : decode cX10_sendSign 14 = .ok (.istore 6, 2) := by decide +kernel
theorem dX10_sendSign_16 : decode cX10_sendSign 16 = .ok (.iload 6, 2) := by decide +kernel
theorem dX10_sendSign_18 : decode cX10_sendSign 18 = .ok (.aload_n 0, 1) := by decide +kernel
theorem dX10_sendSign_19 : decode cX10_sendSign 19 = .ok (.getfield 43, 3) := by decide +kernel
theorem dX10_sendSign_22 : decode cX10_sendSign 22 = .ok (.arraylength, 1) := by decide +kernel
theorem dX10_sendSign_23 : decode cX10_sendSign 23 = .ok (.if_icmp .ge 79, 3) := by decide +kernel
theorem dX10_sendSign_26 : decode cX10_sendSign 26 = .ok (.aload_n 0, 1) := by decide +kernel
theorem dX10_sendSign_27 : decode cX10_sendSign 27 = .ok (.getfield 63, 3) := by decide +kernel
theorem dX10_sendSign_30 : decode cX10_sendSign 30 = .ok (.iload 4, 2) := by decide +kernel
theorem dX10_sendSign_32 : decode cX10_sendSign 32 = .ok (.iload 5, 2) := by decide +kernel
theorem dX10_sendSign_34 : decode cX10_sendSign 34 = .ok (.invokevirtual 344, 3) := by decide +kernel
theorem dX10_sendSign_37 : decode cX10_sendSign 37 = .ok (.istore 5, 2) := by decide +kernel
theorem dX10_sendSign_39 : decode cX10_sendSign 39 = .ok (.aload_n 0, 1) := by decide +kernel
theorem dX10_sendSign_40 : decode cX10_sendSign 40 = .ok (.iload 4, 2) := by decide +kernel
theorem dX10_sendSign_42 : decode cX10_sendSign 42 = .ok (.invokevirtual 347, 3) := by decide +kernel
theorem dX10_sendSign_45 : decode cX10_sendSign 45 = .ok (.istore 4, 2) := by decide +kernel
theorem dX10_sendSign_47 : decode cX10_sendSign 47 = .ok (.iload 5, 2) := by decide +kernel
theorem dX10_sendSign_49 : decode cX10_sendSign 49 = .ok (.iconst (-1), 1) := by decide +kernel
theorem dX10_sendSign_50 : decode cX10_sendSign 50 = .ok (.if_icmp .eq 15, 3) := by decide +kernel
theorem dX10_sendSign_53 : decode cX10_sendSign 53 = .ok (.iload 4, 2) := by decide +kernel
theorem dX10_sendSign_55 : decode cX10_sendSign 55 = .ok (.iconst (-1), 1) := by decide +kernel
theorem dX10_sendSign_56 : decode cX10_sendSign 56 = .ok (.if_icmp .eq 9, 3) := by decide +kernel
theorem dX10_sendSign_59 : decode cX10_sendSign 59 = .ok (.iload 4, 2) := by decide +kernel
theorem dX10_sendSign_61 : decode cX10_sendSign 61 = .ok (.iload_n 1, 1) := by decide +kernel
theorem dX10_sendSign_62 : decode cX10_sendSign 62 = .ok (.if_icmp .ne 5, 3) := by decide +kernel
theorem dX10_sendSign_65 : decode cX10_sendSign 65 = .ok (.iconst (-1), 1) := by decide +kernel
theorem dX10_sendSign_66 : decode cX10_sendSign 66 = .ok (.ireturn, 1) := by decide +kernel
theorem dX10_sendSign_67 : decode cX10_sendSign 67 = .ok (.aload_n 0, 1) := by decide +kernel
theorem dX10_sendSign_68 : decode cX10_sendSign 68 = .ok (.getfield 43, 3) := by decide +kernel
theorem dX10_sendSign_71 : decode cX10_sendSign 71 = .ok (.iload 6, 2) := by decide +kernel
theorem dX10_sendSign_73 : decode cX10_sendSign 73 = .ok (.iload 4, 2) := by decide +kernel
theorem dX10_sendSign_75 : decode cX10_sendSign 75 = .ok (.iastore, 1) := by decide +kernel
theorem dX10_sendSign_76 : decode cX10_sendSign 76 = .ok (.aload_n 0, 1) := by decide +kernel
theorem dX10_sendSign_77 : decode cX10_sendSign 77 = .ok (.iload 6, 2) := by decide +kernel
theorem dX10_sendSign_79 : decode cX10_sendSign 79 = .ok (.iconst 1, 1) := by decide +kernel
theorem dX10_sendSign_80 : decode cX10_sendSign 80 = .ok (.iadd, 1) := by decide +kernel
theorem dX10_sendSign_81 : decode cX10_sendSign 81 = .ok (.putfield 341, 3) := by decide +kernel
theorem dX10_sendSign_84 : decode cX10_sendSign 84 = .ok (.iload 4, 2) := by decide +kernel
theorem dX10_sendSign_86 : decode cX10_sendSign 86 = .ok (.iload_n 2, 1) := by decide +kernel
theorem dX10_sendSign_87 : decode cX10_sendSign 87 = .ok (.if_icmp .ne 6, 3) := by decide +kernel
theorem dX10_sendSign_90 : decode cX10_sendSign 90 = .ok (.iload 5, 2) := by decide +kernel
theorem dX10_sendSign_92 : decode cX10_sendSign 92 = .ok (.ireturn, 1) := by decide +kernel
theorem dX10_sendSign_93 : decode cX10_sendSign 93 = .ok (.iinc 5 1, 3) := by decide +kernel
theorem dX10_sendSign_96 : decode cX10_sendSign 96 = .ok (.iinc 6 1, 3) := by decide +kernel
theorem dX10_sendSign_99 : decode cX10_sendSign 99 = .ok (.goto (-83), 3) := by decide +kernel
theorem dX10_sendSign_102 : decode cX10_sendSign 102 = .ok (.iconst (-1), 1) := by decide +kernel
theorem dX10_sendSign_103 : decode cX10_sendSign 103 = .ok (.ireturn, 1) := by decide +kernel
noncomputable def f_X10_sendSign_L16 (a0 : Nat) (l1 : Int32) (l2 : Int32) (s16 : Int32 × Int32 × Int32 × Mm) : Option ((Int32 × Int32 × Int32 × Mm) ⊕ ((Mm) ⊕ ((Int32 × Mm) ⊕ (Mm)))) :=
  (gf_P 11 8 a0 s16.2.2.2).bind fun x19 => (ga_len x19 s16.2.2.2).bind fun x22 => if x22 ≤ s16.2.2.1 then some (.inr (.inr (.inr s16.2.2.2))) else (gf_P 11 13 a0 s16.2.2.2).bind fun x27 => (f_X7_firstWakefulDay x27 s16.1 s16.2.1 s16.2.2.2).bind fun x34 => (f_X10_dreamerOf a0 s16.1 s16.2.2.2).bind fun x42 => if x34 = (-1 : Int32) then some (.inr (.inl s16.2.2.2)) else if x42 = (-1 : Int32) then some (.inr (.inl s16.2.2.2)) else if x42 = l1 then some (.inr (.inl s16.2.2.2)) else (gf_P 11 8 a0 s16.2.2.2).bind fun x68 => (pa_I x68 s16.2.2.1 x42 s16.2.2.2).bind fun μ75 => (pf_I 11 16 a0 (s16.2.2.1 + (1 : Int32)) μ75).bind fun μ81 => if x42 = l2 then some (.inr (.inr (.inl (x34, μ81)))) else (some (x34 + (1 : Int32))).bind fun v93 => (some (s16.2.2.1 + (1 : Int32))).bind fun v96 => some (.inl (x42, v93, v96, μ81))
noncomputable def f_X10_sendSign (a0 : Nat) (l1 : Int32) (l2 : Int32) (l3 : Int32) (μ : Mm) : Option (Int32 × Mm) :=
  if (mm_K μ a0).1 = 11 then (gf_P 11 8 a0 μ).bind fun x7 => (pa_I x7 (0 : Int32) l1 μ).bind fun μ12 => (whl (f_X10_sendSign_L16 a0 l1 l2) (l1, l3, (1 : Int32), μ12)).bind (sm (fun b16 => some ((-1 : Int32), b16)) (sm (fun b16 => some (b16.1, b16.2)) (fun b16 => some ((-1 : Int32), b16)))) else none
abbrev Rn_X10_sendSign (G : Gv) (Q : Option Value → Mm → Prop) (pc : Nat) (lv : List (Nat × Value)) (st : List Value) (μ : Mm) : Prop := Rn G RX10 cX10_sendSign 7 (some .int) "sendSign" (rmd 3 0 0) (Zm G 0 0 Q) 0 0 pc lv st μ
set_option maxRecDepth 100000 in
set_option maxHeartbeats 4000000 in
theorem m_X10_sendSign {G : Gv} (a0 : Nat) (l1 : Int32) (l2 : Int32) (l3 : Int32) (μ : Mm) {r : (Int32 × Mm)} (hx : f_X10_sendSign a0 l1 l2 l3 μ = some r) : Mt G yX10_sendSign cX10_sendSign 7 (some .int) 3 0 0 [.ref a0, .int l1, .int l2, .int l3] μ (fun v μ' => v = some (.int r.1) ∧ μ' = r.2) := by
  refine Mt.of (by decide) (Nat.le_of_ble_eq_true rfl) ?_
  show Rn_X10_sendSign G (fun v μ' => v = some (.int r.1) ∧ μ' = r.2) 0 [(0, .ref a0), (1, .int l1), (2, .int l2), (3, .int l3)] [] μ
  obtain ⟨_, h⟩ := Sat_ifp (show Sat (f_X10_sendSign a0 l1 l2 l3 μ) (fun x => x = r) from ⟨_, hx, rfl⟩)
  refine r_iload_n dX10_sendSign_0 1 rfl ?_
  refine r_istore (lv' := [(4, .int l1), (0, .ref a0), (1, .int l1), (2, .int l2), (3, .int l3)]) dX10_sendSign_1 (by decide) rfl ?_
  refine r_iload_n dX10_sendSign_3 4 rfl ?_
  refine r_istore (lv' := [(5, .int l3), (4, .int l1), (0, .ref a0), (1, .int l1), (2, .int l2), (3, .int l3)]) dX10_sendSign_4 (by decide) rfl ?_
  refine r_aload_n dX10_sendSign_6 2 rfl ?_
  obtain ⟨x7, e7, h⟩ := Sat_bind h
  refine r_getP fk_X10_43 rfl e7 dX10_sendSign_7 ?_
  refine r_iconst (v := 0) dX10_sendSign_10 (by decide) ?_
  refine r_iload_n dX10_sendSign_11 3 rfl ?_
  obtain ⟨μ12, e12, h⟩ := Sat_bind h
  refine r_iastore e12 dX10_sendSign_12 ?_
  refine r_iconst (v := 1) dX10_sendSign_13 (by decide) ?_
  refine r_istore (lv' := [(6, .int (1 : Int32)), (5, .int l3), (4, .int l1), (0, .ref a0), (1, .int l1), (2, .int l2), (3, .int l3)]) dX10_sendSign_14 (by decide) rfl ?_
  refine r_sub (lv' := [(0, .ref a0), (1, .int l1), (2, .int l2), (4, .int l1), (5, .int l3), (6, .int (1 : Int32))]) [3, 4, 5, 2, 1, 0] rfl ?_
  refine whl_K (s0 := ((l1, l3, (1 : Int32), μ12) : Int32 × Int32 × Int32 × Mm)) (RR := fun (s16 : Int32 × Int32 × Int32 × Mm) => Rn_X10_sendSign G (fun v μ' => v = some (.int r.1) ∧ μ' = r.2) 16 [(0, .ref a0), (1, .int l1), (2, .int l2), (4, .int s16.1), (5, .int s16.2.1), (6, .int s16.2.2.1)] [] s16.2.2.2) ?_ (Sat_bindK h)
  intro s16 K16 hI16 hX16 h
  refine r_iload dX10_sendSign_16 5 rfl ?_
  refine r_aload_n dX10_sendSign_18 0 rfl ?_
  obtain ⟨x19, e19, h⟩ := Sat_bind h
  refine r_getP fk_X10_43 rfl e19 dX10_sendSign_19 ?_
  obtain ⟨x22, e22, h⟩ := Sat_bind h
  refine r_len e22 dX10_sendSign_22 ?_
  refine r_icmp_ge 102 dX10_sendSign_23 (by decide) (fun c23 => ?_) (fun c23 => ?_)
  · have h := Sat_pos c23 h
    have h := hX16 _ (Sat_some h)
    refine r_iconst (v := -1) dX10_sendSign_102 (by decide) ?_
    exact r_ireturn rfl (by rw [← Sat_eq h]; exact ⟨rfl, rfl⟩) dX10_sendSign_103
  · have h := Sat_neg c23 h
    refine r_aload_n dX10_sendSign_26 0 rfl ?_
    obtain ⟨x27, e27, h⟩ := Sat_bind h
    refine r_getP fk_X10_63 rfl e27 dX10_sendSign_27 ?_
    refine r_iload dX10_sendSign_30 3 rfl ?_
    refine r_iload dX10_sendSign_32 4 rfl ?_
    obtain ⟨x34, e34, h⟩ := Sat_bind h
    refine r_cV (t := 8) [.int s16.1, .int s16.2.1] [] (m_X7_firstWakefulDay x27 s16.1 s16.2.1 s16.2.2.2 e34) ck_X7_firstWakefulDay lk_X10_344 in_X7_firstWakefulDay se_X7_firstWakefulDay (kd_of e34) ⟨rfl, by decide, by decide⟩ rfl rfl (Nat.le_of_ble_eq_true rfl) ⟨by decide, by decide⟩ ⟨Nat.zero_le _, Nat.zero_le _⟩ dX10_sendSign_34 ?_
    refine r_istore (lv' := [(5, .int x34), (0, .ref a0), (1, .int l1), (2, .int l2), (4, .int s16.1), (6, .int s16.2.2.1)]) dX10_sendSign_37 (by decide) rfl ?_
    refine r_aload_n dX10_sendSign_39 1 rfl ?_
    refine r_iload dX10_sendSign_40 4 rfl ?_
    obtain ⟨x42, e42, h⟩ := Sat_bind h
    refine r_cV (t := 11) [.int s16.1] [] (m_X10_dreamerOf a0 s16.1 s16.2.2.2 e42) ck_X10_dreamerOf lk_X10_347 in_X10_dreamerOf se_X10_dreamerOf (kd_of e42) ⟨rfl, by decide, by decide⟩ rfl rfl (Nat.le_of_ble_eq_true rfl) ⟨by decide, by decide⟩ ⟨Nat.zero_le _, Nat.zero_le _⟩ dX10_sendSign_42 ?_
    refine r_istore (lv' := [(4, .int x42), (5, .int x34), (0, .ref a0), (1, .int l1), (2, .int l2), (6, .int s16.2.2.1)]) dX10_sendSign_45 (by decide) rfl ?_
    refine r_iload dX10_sendSign_47 1 rfl ?_
    refine r_iconst (v := -1) dX10_sendSign_49 (by decide) ?_
    refine r_icmp_eq 65 dX10_sendSign_50 (by decide) (fun c50 => ?_) (fun c50 => ?_)
    · have h := Sat_pos c50 h
      have h := hX16 _ (Sat_some h)
      refine r_iconst (v := -1) dX10_sendSign_65 (by decide) ?_
      exact r_ireturn rfl (by rw [← Sat_eq h]; exact ⟨rfl, rfl⟩) dX10_sendSign_66
    · have h := Sat_neg c50 h
      refine r_iload dX10_sendSign_53 0 rfl ?_
      refine r_iconst (v := -1) dX10_sendSign_55 (by decide) ?_
      refine r_icmp_eq 65 dX10_sendSign_56 (by decide) (fun c56 => ?_) (fun c56 => ?_)
      · have h := Sat_pos c56 h
        have h := hX16 _ (Sat_some h)
        refine r_iconst (v := -1) dX10_sendSign_65 (by decide) ?_
        exact r_ireturn rfl (by rw [← Sat_eq h]; exact ⟨rfl, rfl⟩) dX10_sendSign_66
      · have h := Sat_neg c56 h
        refine r_iload dX10_sendSign_59 0 rfl ?_
        refine r_iload_n dX10_sendSign_61 3 rfl ?_
        refine r_icmp_ne 67 dX10_sendSign_62 (by decide) (fun c62 => ?_) (fun c62 => ?_)
        · have h := Sat_neg c62 h
          refine r_aload_n dX10_sendSign_67 2 rfl ?_
          obtain ⟨x68, e68, h⟩ := Sat_bind h
          refine r_getP fk_X10_43 rfl e68 dX10_sendSign_68 ?_
          refine r_iload dX10_sendSign_71 5 rfl ?_
          refine r_iload dX10_sendSign_73 0 rfl ?_
          obtain ⟨μ75, e75, h⟩ := Sat_bind h
          refine r_iastore e75 dX10_sendSign_75 ?_
          refine r_aload_n dX10_sendSign_76 2 rfl ?_
          refine r_iload dX10_sendSign_77 5 rfl ?_
          refine r_iconst (v := 1) dX10_sendSign_79 (by decide) ?_
          refine r_iadd dX10_sendSign_80 ?_
          obtain ⟨μ81, e81, h⟩ := Sat_bind h
          refine r_putI fk_X10_341 rfl rfl e81 dX10_sendSign_81 ?_
          refine r_iload dX10_sendSign_84 0 rfl ?_
          refine r_iload_n dX10_sendSign_86 4 rfl ?_
          refine r_icmp_ne 93 dX10_sendSign_87 (by decide) (fun c87 => ?_) (fun c87 => ?_)
          · have h := Sat_neg c87 h
            obtain ⟨v93, e93, h⟩ := Sat_bind h
            refine r_iinc (j := 1) (v := v93) (lv' := [(5, .int v93), (4, .int x42), (0, .ref a0), (1, .int l1), (2, .int l2), (6, .int s16.2.2.1)]) dX10_sendSign_93 rfl (iinc_v e93 (by decide)) (by decide) rfl ?_
            obtain ⟨v96, e96, h⟩ := Sat_bind h
            refine r_iinc (j := 5) (v := v96) (lv' := [(6, .int v96), (5, .int v93), (4, .int x42), (0, .ref a0), (1, .int l1), (2, .int l2)]) dX10_sendSign_96 rfl (iinc_v e96 (by decide)) (by decide) rfl ?_
            refine r_goto 16 dX10_sendSign_99 (by decide) ?_
            exact r_sub [3, 4, 5, 2, 1, 0] rfl (hI16 _ (Sat_some h))
          · have h := Sat_pos c87 h
            have h := hX16 _ (Sat_some h)
            refine r_iload dX10_sendSign_90 1 rfl ?_
            exact r_ireturn rfl (by rw [← Sat_eq h]; exact ⟨rfl, rfl⟩) dX10_sendSign_92
        · have h := Sat_pos c62 h
          have h := hX16 _ (Sat_some h)
          refine r_iconst (v := -1) dX10_sendSign_65 (by decide) ?_
          exact r_ireturn rfl (by rw [← Sat_eq h]; exact ⟨rfl, rfl⟩) dX10_sendSign_66
theorem dX10_over_0 : decode cX10_over 0 = .ok (.aload_n 0, 1) := by decide +kernel
theorem dX10_over_1 : decode cX10_over 1 = .ok (.getfield 63, 3) := by decide +kernel
theorem dX10_over_4 : decode cX10_over 4 = .ok (.iload_n 1, 1) := by decide +kernel
theorem dX10_over_5 : decode cX10_over 5 = .ok (.invokevirtual 178, 3) := by decide +kernel
theorem dX10_over_8 : decode cX10_over 8 = .ok (.ifCond .eq 26, 3) := by decide +kernel
theorem dX10_over_11 : decode cX10_over 11 = .ok (.aload_n 0, 1) := by decide +kernel
theorem dX10_over_12 : decode cX10_over 12 = .ok (.getfield 63, 3) := by decide +kernel
theorem dX10_over_15 : decode cX10_over 15 = .ok (.iload_n 2, 1) := by decide +kernel
theorem dX10_over_16 : decode cX10_over 16 = .ok (.invokevirtual 178, 3) := by decide +kernel
theorem dX10_over_19 : decode cX10_over 19 = .ok (.ifCond .eq 15, 3) := by decide +kernel
theorem dX10_over_22 : decode cX10_over 22 = .ok (.iload_n 3, 1) := by decide +kernel
theorem dX10_over_23 : decode cX10_over 23 = .ok (.invokestatic 214, 3) := by decide +kernel
theorem dX10_over_26 : decode cX10_over 26 = .ok (.ifCond .eq 8, 3) := by decide +kernel
theorem dX10_over_29 : decode cX10_over 29 = .ok (.iload 4, 2) := by decide +kernel
theorem dX10_over_31 : decode cX10_over 31 = .ok (.ifCond .ge 6, 3) := by decide +kernel
theorem dX10_over_34 : decode cX10_over 34 = .ok (.bipush (-2), 2) := by decide +kernel
theorem dX10_over_36 : decode cX10_over 36 = .ok (.ireturn, 1) := by decide +kernel
theorem dX10_over_37 : decode cX10_over 37 = .ok (.iload_n 1, 1) := by decide +kernel
theorem dX10_over_38 : decode cX10_over 38 = .ok (.iload_n 2, 1) := by decide +kernel
theorem dX10_over_39 : decode cX10_over 39 = .ok (.if_icmp .ne 6, 3) := by decide +kernel
theorem dX10_over_42 : decode cX10_over 42 = .ok (.bipush (-4), 2) := by decide +kernel
theorem dX10_over_44 : decode cX10_over 44 = .ok (.ireturn, 1) := by decide +kernel
theorem dX10_over_45 : decode cX10_over 45 = .ok (.aload_n 0, 1) := by decide +kernel
theorem dX10_over_46 : decode cX10_over 46 = .ok (.iload_n 1, 1) := by decide +kernel
theorem dX10_over_47 : decode cX10_over 47 = .ok (.iload_n 2, 1) := by decide +kernel
theorem dX10_over_48 : decode cX10_over 48 = .ok (.iload_n 3, 1) := by decide +kernel
theorem dX10_over_49 : decode cX10_over 49 = .ok (.invokevirtual 338, 3) := by decide +kernel
theorem dX10_over_52 : decode cX10_over 52 = .ok (.iconst (-1), 1) := by decide +kernel
theorem dX10_over_53 : decode cX10_over 53 = .ok (.if_icmp .eq 22, 3) := by decide +kernel
theorem dX10_over_56 : decode cX10_over 56 = .ok (.iload 4, 2) := by decide +kernel
theorem dX10_over_58 : decode cX10_over 58 = .ok (.aload_n 0, 1) := by decide +kernel
theorem dX10_over_59 : decode cX10_over 59 = .ok (.getfield 341, 3) := by decide +kernel
theorem dX10_over_62 : decode cX10_over 62 = .ok (.if_icmp .ge 13, 3) := by decide +kernel
theorem dX10_over_65 : decode cX10_over 65 = .ok (.iload 4, 2) := by decide +kernel
theorem dX10_over_67 : decode cX10_over 67 = .ok (.aload_n 0, 1) := by decide +kernel
theorem dX10_over_68 : decode cX10_over 68 = .ok (.getfield 43, 3) := by decide +kernel
theorem dX10_over_71 : decode cX10_over 71 = .ok (.arraylength, 1) := by decide +kernel
theorem dX10_over_72 : decode cX10_over 72 = .ok (.if_icmp .lt 5, 3) := by decide +kernel
theorem dX10_over_75 : decode cX10_over 75 = .ok (.iconst (-1), 1) := by decide +kernel
theorem dX10_over_76 : decode cX10_over 76 = .ok (.ireturn, 1) := by decide +kernel
theorem dX10_over_77 : decode cX10_over 77 = .ok (.aload_n 0, 1) := by decide +kernel
theorem dX10_over_78 : decode cX10_over 78 = .ok (.getfield 43, 3) := by decide +kernel
theorem dX10_over_81 : decode cX10_over 81 = .ok (.iload 4, 2) := by decide +kernel
theorem dX10_over_83 : decode cX10_over 83 = .ok (.iaload, 1) := by decide +kernel
theorem dX10_over_84 : decode cX10_over 84 = .ok (.ireturn, 1) := by decide +kernel
noncomputable def f_X10_over (a0 : Nat) (l1 : Int32) (l2 : Int32) (l3 : Int32) (l4 : Int32) (μ : Mm) : Option (Int32 × Mm) :=
  if (mm_K μ a0).1 = 11 then (gf_P 11 13 a0 μ).bind fun x1 => (f_X7_isPerson x1 l1 μ).bind fun x5 => if x5 = 0 then some ((-2 : Int32), μ) else (gf_P 11 13 a0 μ).bind fun x12 => (f_X7_isPerson x12 l2 μ).bind fun x16 => if x16 = 0 then some ((-2 : Int32), μ) else (f_X10_isDay l3 μ).bind fun x23 => if x23 = 0 then some ((-2 : Int32), μ) else if 0 ≤ l4 then if l1 = l2 then some ((-4 : Int32), μ) else (f_X10_sendSign a0 l1 l2 l3 μ).bind fun x49 => if x49.1 = (-1 : Int32) then some ((-1 : Int32), x49.2) else (gf_I 11 16 a0 x49.2).bind fun x59 => if x59 ≤ l4 then some ((-1 : Int32), x49.2) else (gf_P 11 8 a0 x49.2).bind fun x68 => (ga_len x68 x49.2).bind fun x71 => if l4 < x71 then (gf_P 11 8 a0 x49.2).bind fun x78 => (ga_I x78 l4 x49.2).bind fun x83 => some (x83, x49.2) else some ((-1 : Int32), x49.2) else some ((-2 : Int32), μ) else none
abbrev Rn_X10_over (G : Gv) (Q : Option Value → Mm → Prop) (pc : Nat) (lv : List (Nat × Value)) (st : List Value) (μ : Mm) : Prop := Rn G RX10 cX10_over 5 (some .int) "over" (rmd 4 0 0) (Zm G 0 0 Q) 0 0 pc lv st μ
set_option maxRecDepth 100000 in
set_option maxHeartbeats 4000000 in
theorem m_X10_over {G : Gv} (a0 : Nat) (l1 : Int32) (l2 : Int32) (l3 : Int32) (l4 : Int32) (μ : Mm) {r : (Int32 × Mm)} (hx : f_X10_over a0 l1 l2 l3 l4 μ = some r) : Mt G yX10_over cX10_over 5 (some .int) 4 0 0 [.ref a0, .int l1, .int l2, .int l3, .int l4] μ (fun v μ' => v = some (.int r.1) ∧ μ' = r.2) := by
  refine Mt.of (by decide) (Nat.le_of_ble_eq_true rfl) ?_
  show Rn_X10_over G (fun v μ' => v = some (.int r.1) ∧ μ' = r.2) 0 [(0, .ref a0), (1, .int l1), (2, .int l2), (3, .int l3), (4, .int l4)] [] μ
  obtain ⟨_, h⟩ := Sat_ifp (show Sat (f_X10_over a0 l1 l2 l3 l4 μ) (fun x => x = r) from ⟨_, hx, rfl⟩)
  refine r_aload_n dX10_over_0 0 rfl ?_
  obtain ⟨x1, e1, h⟩ := Sat_bind h
  refine r_getP fk_X10_63 rfl e1 dX10_over_1 ?_
  refine r_iload_n dX10_over_4 1 rfl ?_
  obtain ⟨x5, e5, h⟩ := Sat_bind h
  refine r_cV (t := 8) [.int l1] [] (m_X7_isPerson x1 l1 μ e5) ck_X7_isPerson lk_X10_178 in_X7_isPerson se_X7_isPerson (kd_of e5) ⟨rfl, by decide, by decide⟩ rfl rfl (Nat.le_of_ble_eq_true rfl) ⟨by decide, by decide⟩ ⟨Nat.zero_le _, Nat.zero_le _⟩ dX10_over_5 ?_
  refine r_if_eq 34 dX10_over_8 (by decide) (fun c8 => ?_) (fun c8 => ?_)
  · have h := Sat_pos c8 h
    refine r_bipush (v := -2) dX10_over_34 (by decide) ?_
    exact r_ireturn rfl (by rw [← Sat_eq h]; exact ⟨rfl, rfl⟩) dX10_over_36
  · have h := Sat_neg c8 h
    refine r_aload_n dX10_over_11 0 rfl ?_
    obtain ⟨x12, e12, h⟩ := Sat_bind h
    refine r_getP fk_X10_63 rfl e12 dX10_over_12 ?_
    refine r_iload_n dX10_over_15 2 rfl ?_
    obtain ⟨x16, e16, h⟩ := Sat_bind h
    refine r_cV (t := 8) [.int l2] [] (m_X7_isPerson x12 l2 μ e16) ck_X7_isPerson lk_X10_178 in_X7_isPerson se_X7_isPerson (kd_of e16) ⟨rfl, by decide, by decide⟩ rfl rfl (Nat.le_of_ble_eq_true rfl) ⟨by decide, by decide⟩ ⟨Nat.zero_le _, Nat.zero_le _⟩ dX10_over_16 ?_
    refine r_if_eq 34 dX10_over_19 (by decide) (fun c19 => ?_) (fun c19 => ?_)
    · have h := Sat_pos c19 h
      refine r_bipush (v := -2) dX10_over_34 (by decide) ?_
      exact r_ireturn rfl (by rw [← Sat_eq h]; exact ⟨rfl, rfl⟩) dX10_over_36
    · have h := Sat_neg c19 h
      refine r_iload_n dX10_over_22 3 rfl ?_
      obtain ⟨x23, e23, h⟩ := Sat_bind h
      refine r_cS [.int l3] [] (m_X10_isDay l3 μ e23) ck_X10_isDay lk_X10_214 st_X10_isDay rfl rfl (Nat.le_of_ble_eq_true rfl) ⟨by decide, by decide⟩ ⟨Nat.zero_le _, Nat.zero_le _⟩ dX10_over_23 ?_
      refine r_if_eq 34 dX10_over_26 (by decide) (fun c26 => ?_) (fun c26 => ?_)
      · have h := Sat_pos c26 h
        refine r_bipush (v := -2) dX10_over_34 (by decide) ?_
        exact r_ireturn rfl (by rw [← Sat_eq h]; exact ⟨rfl, rfl⟩) dX10_over_36
      · have h := Sat_neg c26 h
        refine r_iload dX10_over_29 4 rfl ?_
        refine r_if_ge 37 dX10_over_31 (by decide) (fun c31 => ?_) (fun c31 => ?_)
        · have h := Sat_pos c31 h
          refine r_iload_n dX10_over_37 1 rfl ?_
          refine r_iload_n dX10_over_38 2 rfl ?_
          refine r_icmp_ne 45 dX10_over_39 (by decide) (fun c39 => ?_) (fun c39 => ?_)
          · have h := Sat_neg c39 h
            refine r_aload_n dX10_over_45 0 rfl ?_
            refine r_iload_n dX10_over_46 1 rfl ?_
            refine r_iload_n dX10_over_47 2 rfl ?_
            refine r_iload_n dX10_over_48 3 rfl ?_
            obtain ⟨x49, e49, h⟩ := Sat_bind h
            refine r_cV (t := 11) [.int l1, .int l2, .int l3] [] (m_X10_sendSign a0 l1 l2 l3 μ e49) ck_X10_sendSign lk_X10_338 in_X10_sendSign se_X10_sendSign (kd_of e49) ⟨rfl, by decide, by decide⟩ rfl rfl (Nat.le_of_ble_eq_true rfl) ⟨by decide, by decide⟩ ⟨Nat.zero_le _, Nat.zero_le _⟩ dX10_over_49 ?_
            refine r_iconst (v := -1) dX10_over_52 (by decide) ?_
            refine r_icmp_eq 75 dX10_over_53 (by decide) (fun c53 => ?_) (fun c53 => ?_)
            · have h := Sat_pos c53 h
              refine r_iconst (v := -1) dX10_over_75 (by decide) ?_
              exact r_ireturn rfl (by rw [← Sat_eq h]; exact ⟨rfl, rfl⟩) dX10_over_76
            · have h := Sat_neg c53 h
              refine r_iload dX10_over_56 4 rfl ?_
              refine r_aload_n dX10_over_58 0 rfl ?_
              obtain ⟨x59, e59, h⟩ := Sat_bind h
              refine r_getI fk_X10_341 rfl e59 dX10_over_59 ?_
              refine r_icmp_ge 75 dX10_over_62 (by decide) (fun c62 => ?_) (fun c62 => ?_)
              · have h := Sat_pos c62 h
                refine r_iconst (v := -1) dX10_over_75 (by decide) ?_
                exact r_ireturn rfl (by rw [← Sat_eq h]; exact ⟨rfl, rfl⟩) dX10_over_76
              · have h := Sat_neg c62 h
                refine r_iload dX10_over_65 4 rfl ?_
                refine r_aload_n dX10_over_67 0 rfl ?_
                obtain ⟨x68, e68, h⟩ := Sat_bind h
                refine r_getP fk_X10_43 rfl e68 dX10_over_68 ?_
                obtain ⟨x71, e71, h⟩ := Sat_bind h
                refine r_len e71 dX10_over_71 ?_
                refine r_icmp_lt 77 dX10_over_72 (by decide) (fun c72 => ?_) (fun c72 => ?_)
                · have h := Sat_pos c72 h
                  refine r_aload_n dX10_over_77 0 rfl ?_
                  obtain ⟨x78, e78, h⟩ := Sat_bind h
                  refine r_getP fk_X10_43 rfl e78 dX10_over_78 ?_
                  refine r_iload dX10_over_81 4 rfl ?_
                  obtain ⟨x83, e83, h⟩ := Sat_bind h
                  refine r_iaload e83 dX10_over_83 ?_
                  exact r_ireturn rfl (by rw [← Sat_eq h]; exact ⟨rfl, rfl⟩) dX10_over_84
                · have h := Sat_neg c72 h
                  refine r_iconst (v := -1) dX10_over_75 (by decide) ?_
                  exact r_ireturn rfl (by rw [← Sat_eq h]; exact ⟨rfl, rfl⟩) dX10_over_76
          · have h := Sat_pos c39 h
            refine r_bipush (v := -4) dX10_over_42 (by decide) ?_
            exact r_ireturn rfl (by rw [← Sat_eq h]; exact ⟨rfl, rfl⟩) dX10_over_44
        · have h := Sat_neg c31 h
          refine r_bipush (v := -2) dX10_over_34 (by decide) ?_
          exact r_ireturn rfl (by rw [← Sat_eq h]; exact ⟨rfl, rfl⟩) dX10_over_36
theorem dX10_parts_0 : decode cX10_parts 0 = .ok (.iload_n 1, 1) := by decide +kernel
theorem dX10_parts_1 : decode cX10_parts 1 = .ok (.ifCond .lt 19, 3) := by decide +kernel
theorem dX10_parts_4 : decode cX10_parts 4 = .ok (.iload_n 1, 1) := by decide +kernel
theorem dX10_parts_5 : decode cX10_parts 5 = .ok (.bipush 20, 2) := by decide +kernel
theorem dX10_parts_7 : decode cX10_parts 7 = .ok (.if_icmp .gt 13, 3) := by decide +kernel
theorem dX10_parts_10 : decode cX10_parts 10 = .ok (.iload_n 2, 1) := by decide +kernel
theorem dX10_parts_11 : decode cX10_parts 11 = .ok (.ifCond .lt 9, 3) := by decide +kernel
theorem dX10_parts_14 : decode cX10_parts 14 = .ok (.iload_n 2, 1) := by decide +kernel
theorem dX10_parts_15 : decode cX10_parts 15 = .ok (.bipush 10, 2) := by decide +kernel
theorem dX10_parts_17 : decode cX10_parts 17 = .ok (.if_icmp .le 7, 3) := by decide +kernel
theorem dX10_parts_20 : decode cX10_parts 20 = .ok (.ldc2_w 409, 3) := by decide +kernel
theorem dX10_parts_23 : decode cX10_parts 23 = .ok (.lreturn, 1) := by decide +kernel
theorem dX10_parts_24 : decode cX10_parts 24 = .ok (.bipush 11, 2) := by decide +kernel
theorem dX10_parts_26 : decode cX10_parts 26 = .ok (.istore_n 3, 1) := by decide +kernel
theorem dX10_parts_27 : decode cX10_parts 27 = .ok (.aload_n 0, 1) := by decide +kernel
theorem dX10_parts_28 : decode cX10_parts 28 = .ok (.getfield 56, 3) := by decide +kernel
theorem dX10_parts_31 : decode cX10_parts 31 = .ok (.lconst 0, 1) := by decide +kernel
theorem dX10_parts_32 : decode cX10_parts 32 = .ok (.invokestatic 411, 3) := by decide +kernel
theorem dX10_parts_35 : decode cX10_parts 35 = .ok (.aload_n 0, 1) := by decide +kernel
theorem dX10_parts_36 : decode cX10_parts 36 = .ok (.getfield 56, 3) := by decide +kernel
theorem dX10_parts_39 : decode cX10_parts 39 = .ok (.iconst 0, 1) := by decide +kernel
theorem dX10_parts_40 : decode cX10_parts 40 = .ok (.lconst 1, 1) := by decide +kernel
theorem dX10_parts_41 : decode cX10_parts 41 = .ok (.lastore, 1) := by decide +kernel
theorem dX10_parts_42 : decode cX10_parts 42 = .ok (.iconst 2, 1) := by decide +kernel
theorem dX10_parts_43 : decode cX10_parts 43 = .ok (.istore 4, 2) := by decide +kernel
theorem dX10_parts_45 : decode cX10_parts 45 = .ok (.iload 4, 2) := by decide +kernel
theorem dX10_parts_47 : decode cX10_parts 47 = .ok (.iload_n 1, 1) := by decide +kernel
theorem dX10_parts_48 : decode cX10_parts 48 = .ok (.if_icmp .gt 81, 3) := by decide +kernel
theorem dX10_parts_51 : decode cX10_parts 51 = .ok (.iconst 1, 1) := by decide +kernel
theorem dX10_parts_52 : decode cX10_parts 52 = .ok (.istore 5, 2) := by decide +kernel
theorem dX10_parts_54 : decode cX10_parts 54 = .ok (.iload 5, 2) := by decide +kernel
theorem dX10_parts_56 : decode cX10_parts 56 = .ok (.iload_n 2, 1) := by decide +kernel
theorem dX10_parts_57 : decode cX10_parts 57 = .ok (.if_icmp .gt 66, 3) := by decide +kernel
theorem dX10_parts_60 : decode cX10_parts 60 = .ok (.aload_n 0, 1) := by decide +kernel
theorem dX10_parts_61 : decode cX10_parts 61 = .ok (.getfield 56, 3) := by decide +kernel
theorem dX10_parts_64 : decode cX10_parts 64 = .ok (.iload 4, 2) := by decide +kernel
theorem dX10_parts_66 : decode cX10_parts 66 = .ok (.iconst 1, 1) := by decide +kernel
theorem dX10_parts_67 : decode cX10_parts 67 = .ok (.isub, 1) := by decide +kernel
theorem dX10_parts_68 : decode cX10_parts 68 = .ok (.iload_n 3, 1) := by decide +kernel
theorem dX10_parts_69 : decode cX10_parts 69 = .ok (.imul, 1) := by decide +kernel
theorem dX10_parts_70 : decode cX10_parts 70 = .ok (.iload 5, 2) := by decide +kernel
theorem dX10_parts_72 : decode cX10_parts 72 = .ok (.iadd, 1) := by decide +kernel
theorem dX10_parts_73 : decode cX10_parts 73 = .ok (.laload, 1) := by decide +kernel
theorem dX10_parts_74 : decode cX10_parts 74 = .ok (.lstore 6, 2) := by decide +kernel
theorem dX10_parts_76 : decode cX10_parts 76 = .ok (.aload_n 0, 1) := by decide +kernel
theorem dX10_parts_77 : decode cX10_parts 77 = .ok (.getfield 56, 3) := by decide +kernel
theorem dX10_parts_80 : decode cX10_parts 80 = .ok (.iload 4, 2) := by decide +kernel
theorem dX10_parts_82 : decode cX10_parts 82 = .ok (.iconst 2, 1) := by decide +kernel
theorem dX10_parts_83 : decode cX10_parts 83 = .ok (.isub, 1) := by decide +kernel
theorem dX10_parts_84 : decode cX10_parts 84 = .ok (.iload_n 3, 1) := by decide +kernel
theorem dX10_parts_85 : decode cX10_parts 85 = .ok (.imul, 1) := by decide +kernel
theorem dX10_parts_86 : decode cX10_parts 86 = .ok (.iload 5, 2) := by decide +kernel
theorem dX10_parts_88 : decode cX10_parts 88 = .ok (.iadd, 1) := by decide +kernel
theorem dX10_parts_89 : decode cX10_parts 89 = .ok (.iconst 1, 1) := by decide +kernel
theorem dX10_parts_90 : decode cX10_parts 90 = .ok (.isub, 1) := by decide +kernel
theorem dX10_parts_91 : decode cX10_parts 91 = .ok (.laload, 1) := by decide +kernel
theorem dX10_parts_92 : decode cX10_parts 92 = .ok (.lstore 8, 2) := by decide +kernel
theorem dX10_parts_94 : decode cX10_parts 94 = .ok (.aload_n 0, 1) := by decide +kernel
theorem dX10_parts_95 : decode cX10_parts 95 = .ok (.getfield 56, 3) := by decide +kernel
theorem dX10_parts_98 : decode cX10_parts 98 = .ok (.iload 4, 2) := by decide +kernel
theorem dX10_parts_100 : decode cX10_parts 100 = .ok (.iload_n 3, 1) := by decide +kernel
theorem dX10_parts_101 : decode cX10_parts 101 = .ok (.imul, 1) := by decide +kernel
theorem dX10_parts_102 : decode cX10_parts 102 = .ok (.iload 5, 2) := by decide +kernel
theorem dX10_parts_104 : decode cX10_parts 104 = .ok (.iadd, 1) := by decide +kernel
theorem dX10_parts_105 : decode cX10_parts 105 = .ok (.iload 4, 2) := by decide +kernel
theorem dX10_parts_107 : decode cX10_parts 107 = .ok (.iconst 1, 1) := by decide +kernel
theorem dX10_parts_108 : decode cX10_parts 108 = .ok (.isub, 1) := by decide +kernel
theorem dX10_parts_109 : decode cX10_parts 109 = .ok (.i2l, 1) := by decide +kernel
theorem dX10_parts_110 : decode cX10_parts 110 = .ok (.lload 6, 2) := by decide +kernel
theorem dX10_parts_112 : decode cX10_parts 112 = .ok (.lload 8, 2) := by decide +kernel
theorem dX10_parts_114 : decode cX10_parts 114 = .ok (.ladd, 1) := by decide +kernel
theorem dX10_parts_115 : decode cX10_parts 115 = .ok (.lmul, 1) := by decide +kernel
theorem dX10_parts_116 : decode cX10_parts 116 = .ok (.lastore, 1) := by decide +kernel
theorem dX10_parts_117 : decode cX10_parts 117 = .ok (.iinc 5 1, 3) := by decide +kernel
theorem dX10_parts_120 : decode cX10_parts 120 = .ok (.goto (-66), 3) := by decide +kernel
theorem dX10_parts_123 : decode cX10_parts 123 = .ok (.iinc 4 1, 3) := by decide +kernel
theorem dX10_parts_126 : decode cX10_parts 126 = .ok (.goto (-81), 3) := by decide +kernel
theorem dX10_parts_129 : decode cX10_parts 129 = .ok (.aload_n 0, 1) := by decide +kernel
theorem dX10_parts_130 : decode cX10_parts 130 = .ok (.getfield 56, 3) := by decide +kernel
theorem dX10_parts_133 : decode cX10_parts 133 = .ok (.iload_n 1, 1) := by decide +kernel
theorem dX10_parts_134 : decode cX10_parts 134 = .ok (.iload_n 3, 1) := by decide +kernel
theorem dX10_parts_135 : decode cX10_parts 135 = .ok (.imul, 1) := by decide +kernel
theorem dX10_parts_136 : decode cX10_parts 136 = .ok (.iload_n 2, 1) := by decide +kernel
theorem dX10_parts_137 : decode cX10_parts 137 = .ok (.iadd, 1) := by decide +kernel
theorem dX10_parts_138 : decode cX10_parts 138 = .ok (.laload, 1) := by decide +kernel
theorem dX10_parts_139 : decode cX10_parts 139 = .ok (.lreturn, 1) := by decide +kernel
noncomputable def f_X10_parts_J129 (a0 : Nat) (l1 : Int32) (l2 : Int32) (l3 : Int32) (μ : Mm) : Option (Int64 × Mm) :=
  (gf_P 11 12 a0 μ).bind fun x130 => (ga_L x130 ((l1 * l3) + l2) μ).bind fun x138 => some (x138, μ)
noncomputable def f_X10_parts_J123 (a0 : Nat) (l1 : Int32) (l2 : Int32) (l3 : Int32) (l4 : Int32) (μ : Mm) : Option ((Int32 × Mm) ⊕ (Mm)) :=
  (some (l4 + (1 : Int32))).bind fun v123 => some (.inl (v123, μ))
noncomputable def f_X10_parts_L54 (a0 : Nat) (l1 : Int32) (l2 : Int32) (l3 : Int32) (l4 : Int32) (s54 : Int32 × Mm) : Option ((Int32 × Mm) ⊕ (Mm)) :=
  if l2 < s54.1 then some (.inr s54.2) else (gf_P 11 12 a0 s54.2).bind fun x61 => (ga_L x61 (((l4 - (1 : Int32)) * l3) + s54.1) s54.2).bind fun x73 => (gf_P 11 12 a0 s54.2).bind fun x77 => (ga_L x77 ((((l4 - (2 : Int32)) * l3) + s54.1) - (1 : Int32)) s54.2).bind fun x91 => (gf_P 11 12 a0 s54.2).bind fun x95 => (pa_L x95 ((l4 * l3) + s54.1) (((l4 - (1 : Int32)).toInt64) * (x73 + x91)) s54.2).bind fun μ116 => (some (s54.1 + (1 : Int32))).bind fun v117 => some (.inl (v117, μ116))
noncomputable def f_X10_parts_L45 (a0 : Nat) (l1 : Int32) (l2 : Int32) (l3 : Int32) (s45 : Int32 × Mm) : Option ((Int32 × Mm) ⊕ (Mm)) :=
  if l1 < s45.1 then some (.inr s45.2) else (whl (f_X10_parts_L54 a0 l1 l2 l3 s45.1) ((1 : Int32), s45.2)).bind (fun b54 => f_X10_parts_J123 a0 l1 l2 l3 s45.1 b54)
noncomputable def f_X10_parts (a0 : Nat) (l1 : Int32) (l2 : Int32) (μ : Mm) : Option (Int64 × Mm) :=
  if (mm_K μ a0).1 = 11 then if l1 < 0 then some ((-2 : Int64), μ) else if (20 : Int32) < l1 then some ((-2 : Int64), μ) else if l2 < 0 then some ((-2 : Int64), μ) else if l2 ≤ (10 : Int32) then (gf_P 11 12 a0 μ).bind fun x28 => (f_J7_fill_d0a16 x28 (0 : Int64) μ).bind fun x32 => (gf_P 11 12 a0 x32).bind fun x36 => (pa_L x36 (0 : Int32) (1 : Int64) x32).bind fun μ41 => (whl (f_X10_parts_L45 a0 l1 l2 (11 : Int32)) ((2 : Int32), μ41)).bind (fun b45 => f_X10_parts_J129 a0 l1 l2 (11 : Int32) b45) else some ((-2 : Int64), μ) else none
abbrev Rn_X10_parts (G : Gv) (Q : Option Value → Mm → Prop) (pc : Nat) (lv : List (Nat × Value)) (st : List Value) (μ : Mm) : Prop := Rn G RX10 cX10_parts 10 (some .long) "parts" (rmd 1 0 0) (Zm G 0 0 Q) 0 0 pc lv st μ
set_option maxRecDepth 100000 in
set_option maxHeartbeats 4000000 in
theorem m_X10_parts {G : Gv} (a0 : Nat) (l1 : Int32) (l2 : Int32) (μ : Mm) {r : (Int64 × Mm)} (hx : f_X10_parts a0 l1 l2 μ = some r) : Mt G yX10_parts cX10_parts 10 (some .long) 1 0 0 [.ref a0, .int l1, .int l2] μ (fun v μ' => v = some (.long r.1) ∧ μ' = r.2) := by
  refine Mt.of (by decide) (Nat.le_of_ble_eq_true rfl) ?_
  show Rn_X10_parts G (fun v μ' => v = some (.long r.1) ∧ μ' = r.2) 0 [(0, .ref a0), (1, .int l1), (2, .int l2)] [] μ
  obtain ⟨_, h⟩ := Sat_ifp (show Sat (f_X10_parts a0 l1 l2 μ) (fun x => x = r) from ⟨_, hx, rfl⟩)
  have J129 : ∀ (a0_129 : Nat) (l1_129 : Int32) (l2_129 : Int32) (l3_129 : Int32) (μ_129 : Mm), Sat (f_X10_parts_J129 a0_129 l1_129 l2_129 l3_129 μ_129) (fun x => x = r) → Rn_X10_parts G (fun v μ' => v = some (.long r.1) ∧ μ' = r.2) 129 [(0, .ref a0_129), (1, .int l1_129), (2, .int l2_129), (3, .int l3_129)] [] μ_129 := by
    intro a0_129 l1_129 l2_129 l3_129 μ_129 h
    refine r_aload_n dX10_parts_129 0 rfl ?_
    obtain ⟨x130, e130, h⟩ := Sat_bind h
    refine r_getP fk_X10_56 rfl e130 dX10_parts_130 ?_
    refine r_iload_n dX10_parts_133 1 rfl ?_
    refine r_iload_n dX10_parts_134 3 rfl ?_
    refine r_imul dX10_parts_135 ?_
    refine r_iload_n dX10_parts_136 2 rfl ?_
    refine r_iadd dX10_parts_137 ?_
    obtain ⟨x138, e138, h⟩ := Sat_bind h
    refine r_laload e138 dX10_parts_138 ?_
    exact r_lreturn rfl (by rw [← Sat_eq h]; exact ⟨rfl, rfl⟩) dX10_parts_139
  refine r_iload_n dX10_parts_0 1 rfl ?_
  refine r_if_lt 20 dX10_parts_1 (by decide) (fun c1 => ?_) (fun c1 => ?_)
  · have h := Sat_pos c1 h
    refine r_ldc2 (v := -2) dX10_parts_20 kc_X10_409 ?_
    exact r_lreturn rfl (by rw [← Sat_eq h]; exact ⟨rfl, rfl⟩) dX10_parts_23
  · have h := Sat_neg c1 h
    refine r_iload_n dX10_parts_4 1 rfl ?_
    refine r_bipush (v := 20) dX10_parts_5 (by decide) ?_
    refine r_icmp_gt 20 dX10_parts_7 (by decide) (fun c7 => ?_) (fun c7 => ?_)
    · have h := Sat_pos c7 h
      refine r_ldc2 (v := -2) dX10_parts_20 kc_X10_409 ?_
      exact r_lreturn rfl (by rw [← Sat_eq h]; exact ⟨rfl, rfl⟩) dX10_parts_23
    · have h := Sat_neg c7 h
      refine r_iload_n dX10_parts_10 2 rfl ?_
      refine r_if_lt 20 dX10_parts_11 (by decide) (fun c11 => ?_) (fun c11 => ?_)
      · have h := Sat_pos c11 h
        refine r_ldc2 (v := -2) dX10_parts_20 kc_X10_409 ?_
        exact r_lreturn rfl (by rw [← Sat_eq h]; exact ⟨rfl, rfl⟩) dX10_parts_23
      · have h := Sat_neg c11 h
        refine r_iload_n dX10_parts_14 2 rfl ?_
        refine r_bipush (v := 10) dX10_parts_15 (by decide) ?_
        refine r_icmp_le 24 dX10_parts_17 (by decide) (fun c17 => ?_) (fun c17 => ?_)
        · have h := Sat_pos c17 h
          refine r_bipush (v := 11) dX10_parts_24 (by decide) ?_
          refine r_istore_n (lv' := [(3, .int (11 : Int32)), (0, .ref a0), (1, .int l1), (2, .int l2)]) dX10_parts_26 rfl (by decide) rfl ?_
          refine r_aload_n dX10_parts_27 1 rfl ?_
          obtain ⟨x28, e28, h⟩ := Sat_bind h
          refine r_getP fk_X10_56 rfl e28 dX10_parts_28 ?_
          refine r_lconst (v := 0) dX10_parts_31 (by decide) ?_
          obtain ⟨x32, e32, h⟩ := Sat_bind h
          refine r_cS [.ref x28, .long (0 : Int64)] [] (m_J7_fill_d0a16 x28 (0 : Int64) μ e32) ck_J7_fill_d0a16 lk_X10_411 st_J7_fill_d0a16 rfl rfl (Nat.le_of_ble_eq_true rfl) ⟨by decide, by decide⟩ ⟨Nat.zero_le _, Nat.zero_le _⟩ dX10_parts_32 ?_
          refine r_aload_n dX10_parts_35 1 rfl ?_
          obtain ⟨x36, e36, h⟩ := Sat_bind h
          refine r_getP fk_X10_56 rfl e36 dX10_parts_36 ?_
          refine r_iconst (v := 0) dX10_parts_39 (by decide) ?_
          refine r_lconst (v := 1) dX10_parts_40 (by decide) ?_
          obtain ⟨μ41, e41, h⟩ := Sat_bind h
          refine r_lastore e41 dX10_parts_41 ?_
          refine r_iconst (v := 2) dX10_parts_42 (by decide) ?_
          refine r_istore (lv' := [(4, .int (2 : Int32)), (3, .int (11 : Int32)), (0, .ref a0), (1, .int l1), (2, .int l2)]) dX10_parts_43 (by decide) rfl ?_
          refine r_sub (lv' := [(0, .ref a0), (1, .int l1), (2, .int l2), (3, .int (11 : Int32)), (4, .int (2 : Int32))]) [2, 3, 4, 1, 0] rfl ?_
          refine whl_K (s0 := (((2 : Int32), μ41) : Int32 × Mm)) (RR := fun (s45 : Int32 × Mm) => Rn_X10_parts G (fun v μ' => v = some (.long r.1) ∧ μ' = r.2) 45 [(0, .ref a0), (1, .int l1), (2, .int l2), (3, .int (11 : Int32)), (4, .int s45.1)] [] s45.2) ?_ (Sat_bindK h)
          intro s45 K45 hI45 hX45 h
          have J123 : ∀ (l4_123 : Int32) (μ_123 : Mm), Sat (f_X10_parts_J123 a0 l1 l2 (11 : Int32) l4_123 μ_123) K45 → Rn_X10_parts G (fun v μ' => v = some (.long r.1) ∧ μ' = r.2) 123 [(0, .ref a0), (1, .int l1), (2, .int l2), (3, .int (11 : Int32)), (4, .int l4_123)] [] μ_123 := by
            intro l4_123 μ_123 h
            obtain ⟨v123, e123, h⟩ := Sat_bind h
            refine r_iinc (j := 4) (v := v123) (lv' := [(4, .int v123), (0, .ref a0), (1, .int l1), (2, .int l2), (3, .int (11 : Int32))]) dX10_parts_123 rfl (iinc_v e123 (by decide)) (by decide) rfl ?_
            refine r_goto 45 dX10_parts_126 (by decide) ?_
            exact r_sub [1, 2, 3, 4, 0] rfl (hI45 _ (Sat_some h))
          refine r_iload dX10_parts_45 4 rfl ?_
          refine r_iload_n dX10_parts_47 1 rfl ?_
          refine r_icmp_gt 129 dX10_parts_48 (by decide) (fun c48 => ?_) (fun c48 => ?_)
          · have h := Sat_pos c48 h
            have h := hX45 _ (Sat_some h)
            exact r_sub [0, 1, 2, 3] rfl (J129 a0 l1 l2 (11 : Int32) s45.2 h)
          · have h := Sat_neg c48 h
            refine r_iconst (v := 1) dX10_parts_51 (by decide) ?_
            refine r_istore (lv' := [(5, .int (1 : Int32)), (0, .ref a0), (1, .int l1), (2, .int l2), (3, .int (11 : Int32)), (4, .int s45.1)]) dX10_parts_52 (by decide) rfl ?_
            refine r_sub (lv' := [(0, .ref a0), (1, .int l1), (2, .int l2), (3, .int (11 : Int32)), (4, .int s45.1), (5, .int (1 : Int32))]) [1, 2, 3, 4, 5, 0] rfl ?_
            refine whl_K (s0 := (((1 : Int32), s45.2) : Int32 × Mm)) (RR := fun (s54 : Int32 × Mm) => Rn_X10_parts G (fun v μ' => v = some (.long r.1) ∧ μ' = r.2) 54 [(0, .ref a0), (1, .int l1), (2, .int l2), (3, .int (11 : Int32)), (4, .int s45.1), (5, .int s54.1)] [] s54.2) ?_ (Sat_bindK h)
            intro s54 K54 hI54 hX54 h
            refine r_iload dX10_parts_54 5 rfl ?_
            refine r_iload_n dX10_parts_56 2 rfl ?_
            refine r_icmp_gt 123 dX10_parts_57 (by decide) (fun c57 => ?_) (fun c57 => ?_)
            · have h := Sat_pos c57 h
              have h := hX54 _ (Sat_some h)
              exact r_sub [0, 1, 2, 3, 4] rfl (J123 s45.1 s54.2 h)
            · have h := Sat_neg c57 h
              refine r_aload_n dX10_parts_60 0 rfl ?_
              obtain ⟨x61, e61, h⟩ := Sat_bind h
              refine r_getP fk_X10_56 rfl e61 dX10_parts_61 ?_
              refine r_iload dX10_parts_64 4 rfl ?_
              refine r_iconst (v := 1) dX10_parts_66 (by decide) ?_
              refine r_isub dX10_parts_67 ?_
              refine r_iload_n dX10_parts_68 3 rfl ?_
              refine r_imul dX10_parts_69 ?_
              refine r_iload dX10_parts_70 5 rfl ?_
              refine r_iadd dX10_parts_72 ?_
              obtain ⟨x73, e73, h⟩ := Sat_bind h
              refine r_laload e73 dX10_parts_73 ?_
              refine r_lstore (lv' := [(6, .long x73), (0, .ref a0), (1, .int l1), (2, .int l2), (3, .int (11 : Int32)), (4, .int s45.1), (5, .int s54.1)]) dX10_parts_74 (by decide) rfl ?_
              refine r_aload_n dX10_parts_76 1 rfl ?_
              obtain ⟨x77, e77, h⟩ := Sat_bind h
              refine r_getP fk_X10_56 rfl e77 dX10_parts_77 ?_
              refine r_iload dX10_parts_80 5 rfl ?_
              refine r_iconst (v := 2) dX10_parts_82 (by decide) ?_
              refine r_isub dX10_parts_83 ?_
              refine r_iload_n dX10_parts_84 4 rfl ?_
              refine r_imul dX10_parts_85 ?_
              refine r_iload dX10_parts_86 6 rfl ?_
              refine r_iadd dX10_parts_88 ?_
              refine r_iconst (v := 1) dX10_parts_89 (by decide) ?_
              refine r_isub dX10_parts_90 ?_
              obtain ⟨x91, e91, h⟩ := Sat_bind h
              refine r_laload e91 dX10_parts_91 ?_
              refine r_lstore (lv' := [(8, .long x91), (6, .long x73), (0, .ref a0), (1, .int l1), (2, .int l2), (3, .int (11 : Int32)), (4, .int s45.1), (5, .int s54.1)]) dX10_parts_92 (by decide) rfl ?_
              refine r_aload_n dX10_parts_94 2 rfl ?_
              obtain ⟨x95, e95, h⟩ := Sat_bind h
              refine r_getP fk_X10_56 rfl e95 dX10_parts_95 ?_
              refine r_iload dX10_parts_98 6 rfl ?_
              refine r_iload_n dX10_parts_100 5 rfl ?_
              refine r_imul dX10_parts_101 ?_
              refine r_iload dX10_parts_102 7 rfl ?_
              refine r_iadd dX10_parts_104 ?_
              refine r_iload dX10_parts_105 6 rfl ?_
              refine r_iconst (v := 1) dX10_parts_107 (by decide) ?_
              refine r_isub dX10_parts_108 ?_
              refine r_i2l dX10_parts_109 ?_
              refine r_lload dX10_parts_110 1 rfl ?_
              refine r_lload dX10_parts_112 0 rfl ?_
              refine r_ladd dX10_parts_114 ?_
              refine r_lmul dX10_parts_115 ?_
              obtain ⟨μ116, e116, h⟩ := Sat_bind h
              refine r_lastore e116 dX10_parts_116 ?_
              obtain ⟨v117, e117, h⟩ := Sat_bind h
              refine r_iinc (j := 7) (v := v117) (lv' := [(5, .int v117), (8, .long x91), (6, .long x73), (0, .ref a0), (1, .int l1), (2, .int l2), (3, .int (11 : Int32)), (4, .int s45.1)]) dX10_parts_117 rfl (iinc_v e117 (by decide)) (by decide) rfl ?_
              refine r_goto 54 dX10_parts_120 (by decide) ?_
              exact r_sub [3, 4, 5, 6, 7, 0] rfl (hI54 _ (Sat_some h))
        · have h := Sat_neg c17 h
          refine r_ldc2 (v := -2) dX10_parts_20 kc_X10_409 ?_
          exact r_lreturn rfl (by rw [← Sat_eq h]; exact ⟨rfl, rfl⟩) dX10_parts_23
theorem dX10_plan_0 : decode cX10_plan 0 = .ok (.aload_n 0, 1) := by decide +kernel
theorem dX10_plan_1 : decode cX10_plan 1 = .ok (.getfield 84, 3) := by decide +kernel
theorem dX10_plan_4 : decode cX10_plan 4 = .ok (.aload_n 0, 1) := by decide +kernel
theorem dX10_plan_5 : decode cX10_plan 5 = .ok (.getfield 116, 3) := by decide +kernel
theorem dX10_plan_8 : decode cX10_plan 8 = .ok (.invokevirtual 220, 3) := by decide +kernel
theorem dX10_plan_11 : decode cX10_plan 11 = .ok (.iconst 0, 1) := by decide +kernel
theorem dX10_plan_12 : decode cX10_plan 12 = .ok (.istore_n 1, 1) := by decide +kernel
theorem dX10_plan_13 : decode cX10_plan 13 = .ok (.aload_n 0, 1) := by decide +kernel
theorem dX10_plan_14 : decode cX10_plan 14 = .ok (.iconst 0, 1) := by decide +kernel
theorem dX10_plan_15 : decode cX10_plan 15 = .ok (.invokevirtual 330, 3) := by decide +kernel
theorem dX10_plan_18 : decode cX10_plan 18 = .ok (.invokestatic 333, 3) := by decide +kernel
theorem dX10_plan_21 : decode cX10_plan 21 = .ok (.istore_n 2, 1) := by decide +kernel
theorem dX10_plan_22 : decode cX10_plan 22 = .ok (.iconst 1, 1) := by decide +kernel
theorem dX10_plan_23 : decode cX10_plan 23 = .ok (.istore_n 3, 1) := by decide +kernel
theorem dX10_plan_24 : decode cX10_plan 24 = .ok (.iload_n 3, 1) := by decide +kernel
theorem dX10_plan_25 : decode cX10_plan 25 = .ok (.iconst 1, 1) := by decide +kernel
theorem dX10_plan_26 : decode cX10_plan 26 = .ok (.aload_n 0, 1) := by decide +kernel
theorem dX10_plan_27 : decode cX10_plan 27 = .ok (.getfield 63, 3) := by decide +kernel
theorem dX10_plan_30 : decode cX10_plan 30 = .ok (.getfield 153, 3) := by decide +kernel
theorem dX10_plan_33 : decode cX10_plan 33 = .ok (.ishl, 1) := by decide +kernel
theorem dX10_plan_34 : decode cX10_plan 34 = .ok (.if_icmp .ge 59, 3) := by decide +kernel
theorem dX10_plan_37 : decode cX10_plan 37 = .ok (.aload_n 0, 1) := by decide +kernel
theorem dX10_plan_38 : decode cX10_plan 38 = .ok (.iload_n 3, 1) := by decide +kernel
theorem dX10_plan_39 : decode cX10_plan 39 = .ok (.invokevirtual 330, 3) := by decide +kernel
theorem dX10_plan_42 : decode cX10_plan 42 = .ok (.invokestatic 333, 3) := by decide +kernel
theorem dX10_plan_45 : decode cX10_plan 45 = .ok (.istore 4, 2) := by decide +kernel
theorem dX10_plan_47 : decode cX10_plan 47 = .ok (.iload_n 3, 1) := by decide +kernel
theorem dX10_plan_48 : decode cX10_plan 48 = .ok (.invokestatic 333, 3) := by decide +kernel
theorem dX10_plan_51 : decode cX10_plan 51 = .ok (.iload_n 1, 1) := by decide +kernel
theorem dX10_plan_52 : decode cX10_plan 52 = .ok (.invokestatic 333, 3) := by decide +kernel
theorem dX10_plan_55 : decode cX10_plan 55 = .ok (.if_icmp .ge 7, 3) := by decide +kernel
theorem dX10_plan_58 : decode cX10_plan 58 = .ok (.iconst 1, 1) := by decide +kernel
theorem dX10_plan_59 : decode cX10_plan 59 = .ok (.goto 4, 3) := by decide +kernel
theorem dX10_plan_62 : decode cX10_plan 62 = .ok (.iconst 0, 1) := by decide +kernel
theorem dX10_plan_63 : decode cX10_plan 63 = .ok (.istore 5, 2) := by decide +kernel
theorem dX10_plan_65 : decode cX10_plan 65 = .ok (.iload 4, 2) := by decide +kernel
theorem dX10_plan_67 : decode cX10_plan 67 = .ok (.iload_n 2, 1) := by decide +kernel
theorem dX10_plan_68 : decode cX10_plan 68 = .ok (.if_icmp .gt 14, 3) := by decide +kernel
theorem dX10_plan_71 : decode cX10_plan 71 = .ok (.iload 4, 2) := by decide +kernel
theorem dX10_plan_73 : decode cX10_plan 73 = .ok (.iload_n 2, 1) := by decide +kernel
theorem dX10_plan_74 : decode cX10_plan 74 = .ok (.if_icmp .ne 13, 3) := by decide +kernel
theorem dX10_plan_77 : decode cX10_plan 77 = .ok (.iload 5, 2) := by decide +kernel
theorem dX10_plan_79 : decode cX10_plan 79 = .ok (.ifCond .eq 8, 3) := by decide +kernel
theorem dX10_plan_82 : decode cX10_plan 82 = .ok (.iload 4, 2) := by decide +kernel
theorem dX10_plan_84 : decode cX10_plan 84 = .ok (.istore_n 2, 1) := by decide +kernel
theorem dX10_plan_85 : decode cX10_plan 85 = .ok (.iload_n 3, 1) := by decide +kernel
theorem dX10_plan_86 : decode cX10_plan 86 = .ok (.istore_n 1, 1) := by decide +kernel
theorem dX10_plan_87 : decode cX10_plan 87 = .ok (.iinc 3 1, 3) := by decide +kernel
theorem dX10_plan_90 : decode cX10_plan 90 = .ok (.goto (-66), 3) := by decide +kernel
theorem dX10_plan_93 : decode cX10_plan 93 = .ok (.iload_n 1, 1) := by decide +kernel
theorem dX10_plan_94 : decode cX10_plan 94 = .ok (.ireturn, 1) := by decide +kernel
noncomputable def f_X10_plan_J87 (a0 : Nat) (l1 : Int32) (l2 : Int32) (l3 : Int32) (μ : Mm) : Option ((Int32 × Int32 × Int32 × Mm) ⊕ (Int32 × Mm)) :=
  (some (l3 + (1 : Int32))).bind fun v87 => some (.inl (l1, l2, v87, μ))
noncomputable def f_X10_plan_J82 (a0 : Nat) (l3 : Int32) (l4 : Int32) (μ : Mm) : Option ((Int32 × Int32 × Int32 × Mm) ⊕ (Int32 × Mm)) :=
  f_X10_plan_J87 a0 l3 l4 l3 μ
noncomputable def f_X10_plan_J63 (a0 : Nat) (l1 : Int32) (l2 : Int32) (l3 : Int32) (l4 : Int32) (k0 : Int32) (μ : Mm) : Option ((Int32 × Int32 × Int32 × Mm) ⊕ (Int32 × Mm)) :=
  if l2 < l4 then f_X10_plan_J82 a0 l3 l4 μ else if l4 = l2 then if k0 = 0 then f_X10_plan_J87 a0 l1 l2 l3 μ else f_X10_plan_J82 a0 l3 l4 μ else f_X10_plan_J87 a0 l1 l2 l3 μ
noncomputable def f_X10_plan_L24 (a0 : Nat) (s24 : Int32 × Int32 × Int32 × Mm) : Option ((Int32 × Int32 × Int32 × Mm) ⊕ (Int32 × Mm)) :=
  (gf_P 11 13 a0 s24.2.2.2).bind fun x27 => (gf_I 8 9 x27 s24.2.2.2).bind fun x30 => if ((1 : Int32) <<< (x30 &&& 31)) ≤ s24.2.2.1 then some (.inr (s24.1, s24.2.2.2)) else (f_X10_wishesMet a0 s24.2.2.1 s24.2.2.2).bind fun x39 => (f_J6_bitCount_0f7a4 x39.1 x39.2).bind fun x42 => (f_J6_bitCount_0f7a4 s24.2.2.1 x39.2).bind fun x48 => (f_J6_bitCount_0f7a4 s24.1 x39.2).bind fun x52 => if x52 ≤ x48 then f_X10_plan_J63 a0 s24.1 s24.2.1 s24.2.2.1 x42 (0 : Int32) x39.2 else f_X10_plan_J63 a0 s24.1 s24.2.1 s24.2.2.1 x42 (1 : Int32) x39.2
noncomputable def f_X10_plan (a0 : Nat) (μ : Mm) : Option (Int32 × Mm) :=
  if (mm_K μ a0).1 = 11 then (gf_P 11 3 a0 μ).bind fun x1 => (gf_I 11 15 a0 μ).bind fun x5 => (f_X4_setTurning x1 x5 μ).bind fun x8 => (f_X10_wishesMet a0 (0 : Int32) x8).bind fun x15 => (f_J6_bitCount_0f7a4 x15.1 x15.2).bind fun x18 => (whl (f_X10_plan_L24 a0) ((0 : Int32), x18, (1 : Int32), x15.2)).bind (fun b24 => some (b24.1, b24.2)) else none
abbrev Rn_X10_plan (G : Gv) (Q : Option Value → Mm → Prop) (pc : Nat) (lv : List (Nat × Value)) (st : List Value) (μ : Mm) : Prop := Rn G RX10 cX10_plan 6 (some .int) "plan" (rmd 5 0 0) (Zm G 0 0 Q) 0 0 pc lv st μ
set_option maxRecDepth 100000 in
set_option maxHeartbeats 4000000 in
theorem m_X10_plan {G : Gv} (a0 : Nat) (μ : Mm) {r : (Int32 × Mm)} (hx : f_X10_plan a0 μ = some r) : Mt G yX10_plan cX10_plan 6 (some .int) 5 0 0 [.ref a0] μ (fun v μ' => v = some (.int r.1) ∧ μ' = r.2) := by
  refine Mt.of (by decide) (Nat.le_of_ble_eq_true rfl) ?_
  show Rn_X10_plan G (fun v μ' => v = some (.int r.1) ∧ μ' = r.2) 0 [(0, .ref a0)] [] μ
  obtain ⟨_, h⟩ := Sat_ifp (show Sat (f_X10_plan a0 μ) (fun x => x = r) from ⟨_, hx, rfl⟩)
  refine r_aload_n dX10_plan_0 0 rfl ?_
  obtain ⟨x1, e1, h⟩ := Sat_bind h
  refine r_getP fk_X10_84 rfl e1 dX10_plan_1 ?_
  refine r_aload_n dX10_plan_4 0 rfl ?_
  obtain ⟨x5, e5, h⟩ := Sat_bind h
  refine r_getI fk_X10_116 rfl e5 dX10_plan_5 ?_
  obtain ⟨x8, e8, h⟩ := Sat_bind h
  refine r_cV (t := 5) [.int x5] [] (m_X4_setTurning x1 x5 μ e8) ck_X4_setTurning lk_X10_220 in_X4_setTurning se_X4_setTurning (kd_of e8) ⟨rfl, by decide, by decide⟩ rfl rfl (Nat.le_of_ble_eq_true rfl) ⟨by decide, by decide⟩ ⟨Nat.zero_le _, Nat.zero_le _⟩ dX10_plan_8 ?_
  refine r_iconst (v := 0) dX10_plan_11 (by decide) ?_
  refine r_istore_n (lv' := [(1, .int (0 : Int32)), (0, .ref a0)]) dX10_plan_12 rfl (by decide) rfl ?_
  refine r_aload_n dX10_plan_13 1 rfl ?_
  refine r_iconst (v := 0) dX10_plan_14 (by decide) ?_
  obtain ⟨x15, e15, h⟩ := Sat_bind h
  refine r_cV (t := 11) [.int (0 : Int32)] [] (m_X10_wishesMet a0 (0 : Int32) x8 e15) ck_X10_wishesMet lk_X10_330 in_X10_wishesMet se_X10_wishesMet (kd_of e15) ⟨rfl, by decide, by decide⟩ rfl rfl (Nat.le_of_ble_eq_true rfl) ⟨by decide, by decide⟩ ⟨Nat.zero_le _, Nat.zero_le _⟩ dX10_plan_15 ?_
  obtain ⟨x18, e18, h⟩ := Sat_bind h
  refine r_cS [.int x15.1] [] (m_J6_bitCount_0f7a4 x15.1 x15.2 e18) ck_J6_bitCount_0f7a4 lk_X10_333 st_J6_bitCount_0f7a4 rfl rfl (Nat.le_of_ble_eq_true rfl) ⟨by decide, by decide⟩ ⟨Nat.zero_le _, Nat.zero_le _⟩ dX10_plan_18 ?_
  refine r_istore_n (lv' := [(2, .int x18), (1, .int (0 : Int32)), (0, .ref a0)]) dX10_plan_21 rfl (by decide) rfl ?_
  refine r_iconst (v := 1) dX10_plan_22 (by decide) ?_
  refine r_istore_n (lv' := [(3, .int (1 : Int32)), (2, .int x18), (1, .int (0 : Int32)), (0, .ref a0)]) dX10_plan_23 rfl (by decide) rfl ?_
  refine r_sub (lv' := [(0, .ref a0), (1, .int (0 : Int32)), (2, .int x18), (3, .int (1 : Int32))]) [3, 2, 1, 0] rfl ?_
  refine whl_K (s0 := (((0 : Int32), x18, (1 : Int32), x15.2) : Int32 × Int32 × Int32 × Mm)) (RR := fun (s24 : Int32 × Int32 × Int32 × Mm) => Rn_X10_plan G (fun v μ' => v = some (.int r.1) ∧ μ' = r.2) 24 [(0, .ref a0), (1, .int s24.1), (2, .int s24.2.1), (3, .int s24.2.2.1)] [] s24.2.2.2) ?_ (Sat_bindK h)
  intro s24 K24 hI24 hX24 h
  have J87 : ∀ (l1_87 : Int32) (l2_87 : Int32) (l3_87 : Int32) (μ_87 : Mm), Sat (f_X10_plan_J87 a0 l1_87 l2_87 l3_87 μ_87) K24 → Rn_X10_plan G (fun v μ' => v = some (.int r.1) ∧ μ' = r.2) 87 [(0, .ref a0), (1, .int l1_87), (2, .int l2_87), (3, .int l3_87)] [] μ_87 := by
    intro l1_87 l2_87 l3_87 μ_87 h
    obtain ⟨v87, e87, h⟩ := Sat_bind h
    refine r_iinc (j := 3) (v := v87) (lv' := [(3, .int v87), (0, .ref a0), (1, .int l1_87), (2, .int l2_87)]) dX10_plan_87 rfl (iinc_v e87 (by decide)) (by decide) rfl ?_
    refine r_goto 24 dX10_plan_90 (by decide) ?_
    exact r_sub [1, 2, 3, 0] rfl (hI24 _ (Sat_some h))
  have J82 : ∀ (l3_82 : Int32) (l4_82 : Int32) (μ_82 : Mm), Sat (f_X10_plan_J82 a0 l3_82 l4_82 μ_82) K24 → Rn_X10_plan G (fun v μ' => v = some (.int r.1) ∧ μ' = r.2) 82 [(0, .ref a0), (3, .int l3_82), (4, .int l4_82)] [] μ_82 := by
    intro l3_82 l4_82 μ_82 h
    refine r_iload dX10_plan_82 2 rfl ?_
    refine r_istore_n (lv' := [(2, .int l4_82), (0, .ref a0), (3, .int l3_82), (4, .int l4_82)]) dX10_plan_84 rfl (by decide) rfl ?_
    refine r_iload_n dX10_plan_85 2 rfl ?_
    refine r_istore_n (lv' := [(1, .int l3_82), (2, .int l4_82), (0, .ref a0), (3, .int l3_82), (4, .int l4_82)]) dX10_plan_86 rfl (by decide) rfl ?_
    exact r_sub [2, 0, 1, 3] rfl (J87 l3_82 l4_82 l3_82 μ_82 h)
  have J63 : ∀ (l1_63 : Int32) (l2_63 : Int32) (l3_63 : Int32) (l4_63 : Int32) (k0_63 : Int32) (μ_63 : Mm), Sat (f_X10_plan_J63 a0 l1_63 l2_63 l3_63 l4_63 k0_63 μ_63) K24 → Rn_X10_plan G (fun v μ' => v = some (.int r.1) ∧ μ' = r.2) 63 [(0, .ref a0), (1, .int l1_63), (2, .int l2_63), (3, .int l3_63), (4, .int l4_63)] [.int k0_63] μ_63 := by
    intro l1_63 l2_63 l3_63 l4_63 k0_63 μ_63 h
    refine r_istore (lv' := [(5, .int k0_63), (0, .ref a0), (1, .int l1_63), (2, .int l2_63), (3, .int l3_63), (4, .int l4_63)]) dX10_plan_63 (by decide) rfl ?_
    refine r_iload dX10_plan_65 5 rfl ?_
    refine r_iload_n dX10_plan_67 3 rfl ?_
    refine r_icmp_gt 82 dX10_plan_68 (by decide) (fun c68 => ?_) (fun c68 => ?_)
    · have h := Sat_pos c68 h
      exact r_sub [1, 4, 5] rfl (J82 l3_63 l4_63 μ_63 h)
    · have h := Sat_neg c68 h
      refine r_iload dX10_plan_71 5 rfl ?_
      refine r_iload_n dX10_plan_73 3 rfl ?_
      refine r_icmp_ne 87 dX10_plan_74 (by decide) (fun c74 => ?_) (fun c74 => ?_)
      · have h := Sat_neg c74 h
        exact r_sub [1, 2, 3, 4] rfl (J87 l1_63 l2_63 l3_63 μ_63 h)
      · have h := Sat_pos c74 h
        refine r_iload dX10_plan_77 0 rfl ?_
        refine r_if_eq 87 dX10_plan_79 (by decide) (fun c79 => ?_) (fun c79 => ?_)
        · have h := Sat_pos c79 h
          exact r_sub [1, 2, 3, 4] rfl (J87 l1_63 l2_63 l3_63 μ_63 h)
        · have h := Sat_neg c79 h
          exact r_sub [1, 4, 5] rfl (J82 l3_63 l4_63 μ_63 h)
  refine r_iload_n dX10_plan_24 3 rfl ?_
  refine r_iconst (v := 1) dX10_plan_25 (by decide) ?_
  refine r_aload_n dX10_plan_26 0 rfl ?_
  obtain ⟨x27, e27, h⟩ := Sat_bind h
  refine r_getP fk_X10_63 rfl e27 dX10_plan_27 ?_
  obtain ⟨x30, e30, h⟩ := Sat_bind h
  refine r_getI fk_X10_153 rfl e30 dX10_plan_30 ?_
  refine r_ishl dX10_plan_33 ?_
  refine r_icmp_ge 93 dX10_plan_34 (by decide) (fun c34 => ?_) (fun c34 => ?_)
  · have h := Sat_pos c34 h
    have h := hX24 _ (Sat_some h)
    refine r_iload_n dX10_plan_93 1 rfl ?_
    exact r_ireturn rfl (by rw [← Sat_eq h]; exact ⟨rfl, rfl⟩) dX10_plan_94
  · have h := Sat_neg c34 h
    refine r_aload_n dX10_plan_37 0 rfl ?_
    refine r_iload_n dX10_plan_38 3 rfl ?_
    obtain ⟨x39, e39, h⟩ := Sat_bind h
    refine r_cV (t := 11) [.int s24.2.2.1] [] (m_X10_wishesMet a0 s24.2.2.1 s24.2.2.2 e39) ck_X10_wishesMet lk_X10_330 in_X10_wishesMet se_X10_wishesMet (kd_of e39) ⟨rfl, by decide, by decide⟩ rfl rfl (Nat.le_of_ble_eq_true rfl) ⟨by decide, by decide⟩ ⟨Nat.zero_le _, Nat.zero_le _⟩ dX10_plan_39 ?_
    obtain ⟨x42, e42, h⟩ := Sat_bind h
    refine r_cS [.int x39.1] [] (m_J6_bitCount_0f7a4 x39.1 x39.2 e42) ck_J6_bitCount_0f7a4 lk_X10_333 st_J6_bitCount_0f7a4 rfl rfl (Nat.le_of_ble_eq_true rfl) ⟨by decide, by decide⟩ ⟨Nat.zero_le _, Nat.zero_le _⟩ dX10_plan_42 ?_
    refine r_istore (lv' := [(4, .int x42), (0, .ref a0), (1, .int s24.1), (2, .int s24.2.1), (3, .int s24.2.2.1)]) dX10_plan_45 (by decide) rfl ?_
    refine r_iload_n dX10_plan_47 4 rfl ?_
    obtain ⟨x48, e48, h⟩ := Sat_bind h
    refine r_cS [.int s24.2.2.1] [] (m_J6_bitCount_0f7a4 s24.2.2.1 x39.2 e48) ck_J6_bitCount_0f7a4 lk_X10_333 st_J6_bitCount_0f7a4 rfl rfl (Nat.le_of_ble_eq_true rfl) ⟨by decide, by decide⟩ ⟨Nat.zero_le _, Nat.zero_le _⟩ dX10_plan_48 ?_
    refine r_iload_n dX10_plan_51 2 rfl ?_
    obtain ⟨x52, e52, h⟩ := Sat_bind h
    refine r_cS [.int s24.1] [.int x48] (m_J6_bitCount_0f7a4 s24.1 x39.2 e52) ck_J6_bitCount_0f7a4 lk_X10_333 st_J6_bitCount_0f7a4 rfl rfl (Nat.le_of_ble_eq_true rfl) ⟨by decide, by decide⟩ ⟨Nat.zero_le _, Nat.zero_le _⟩ dX10_plan_52 ?_
    refine r_icmp_ge 62 dX10_plan_55 (by decide) (fun c55 => ?_) (fun c55 => ?_)
    · have h := Sat_pos c55 h
      refine r_iconst (v := 0) dX10_plan_62 (by decide) ?_
      exact r_sub [1, 2, 3, 4, 0] rfl (J63 s24.1 s24.2.1 s24.2.2.1 x42 (0 : Int32) x39.2 h)
    · have h := Sat_neg c55 h
      refine r_iconst (v := 1) dX10_plan_58 (by decide) ?_
      refine r_goto 63 dX10_plan_59 (by decide) ?_
      exact r_sub [1, 2, 3, 4, 0] rfl (J63 s24.1 s24.2.1 s24.2.2.1 x42 (1 : Int32) x39.2 h)
