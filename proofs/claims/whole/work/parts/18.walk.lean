theorem dX11_judge_0 : decode cX11_judge 0 = .ok (.aload_n 0, 1) := by decide +kernel
theorem dX11_judge_1 : decode cX11_judge 1 = .ok (.invokevirtual 376, 3) := by decide +kernel
theorem dX11_judge_4 : decode cX11_judge 4 = .ok (.istore_n 1, 1) := by decide +kernel
theorem dX11_judge_5 : decode cX11_judge 5 = .ok (.iload_n 1, 1) := by decide +kernel
theorem dX11_judge_6 : decode cX11_judge 6 = .ok (.ifCond .ge 7, 3) := by decide +kernel
theorem dX11_judge_9 : decode cX11_judge 9 = .ok (.sipush (-1000), 3) := by decide +kernel
theorem dX11_judge_12 : decode cX11_judge 12 = .ok (.ireturn, 1) := by decide +kernel
theorem dX11_judge_13 : decode cX11_judge 13 = .ok (.iconst 0, 1) := by decide +kernel
theorem dX11_judge_14 : decode cX11_judge 14 = .ok (.istore_n 2, 1) := by decide +kernel
theorem dX11_judge_15 : decode cX11_judge 15 = .ok (.iload_n 2, 1) := by decide +kernel
theorem dX11_judge_16 : decode cX11_judge 16 = .ok (.iload_n 1, 1) := by decide +kernel
theorem dX11_judge_17 : decode cX11_judge 17 = .ok (.if_icmp .ge 88, 3) := by decide +kernel
theorem dX11_judge_20 : decode cX11_judge 20 = .ok (.aload_n 0, 1) := by decide +kernel
theorem dX11_judge_21 : decode cX11_judge 21 = .ok (.aload_n 0, 1) := by decide +kernel
theorem dX11_judge_22 : decode cX11_judge 22 = .ok (.getfield 85, 3) := by decide +kernel
theorem dX11_judge_25 : decode cX11_judge 25 = .ok (.iload_n 2, 1) := by decide +kernel
theorem dX11_judge_26 : decode cX11_judge 26 = .ok (.iaload, 1) := by decide +kernel
theorem dX11_judge_27 : decode cX11_judge 27 = .ok (.invokevirtual 309, 3) := by decide +kernel
theorem dX11_judge_30 : decode cX11_judge 30 = .ok (.ifCond .eq 16, 3) := by decide +kernel
theorem dX11_judge_33 : decode cX11_judge 33 = .ok (.aload_n 0, 1) := by decide +kernel
theorem dX11_judge_34 : decode cX11_judge 34 = .ok (.aload_n 0, 1) := by decide +kernel
theorem dX11_judge_35 : decode cX11_judge 35 = .ok (.getfield 88, 3) := by decide +kernel
theorem dX11_judge_38 : decode cX11_judge 38 = .ok (.iload_n 2, 1) := by decide +kernel
theorem dX11_judge_39 : decode cX11_judge 39 = .ok (.iaload, 1) := by decide +kernel
theorem dX11_judge_40 : decode cX11_judge 40 = .ok (.invokevirtual 315, 3) := by decide +kernel
theorem dX11_judge_43 : decode cX11_judge 43 = .ok (.ifCond .ne 7, 3) := by decide +kernel
theorem dX11_judge_46 : decode cX11_judge 46 = .ok (.iconst (-1), 1) := by decide +kernel
theorem dX11_judge_47 : decode cX11_judge 47 = .ok (.iload_n 2, 1) := by decide +kernel
theorem dX11_judge_48 : decode cX11_judge 48 = .ok (.isub, 1) := by decide +kernel
theorem dX11_judge_49 : decode cX11_judge 49 = .ok (.ireturn, 1) := by decide +kernel
theorem dX11_judge_50 : decode cX11_judge 50 = .ok (.aload_n 0, 1) := by decide +kernel
theorem dX11_judge_51 : decode cX11_judge 51 = .ok (.aload_n 0, 1) := by decide +kernel
theorem dX11_judge_52 : decode cX11_judge 52 = .ok (.getfield 73, 3) := by decide +kernel
theorem dX11_judge_55 : decode cX11_judge 55 = .ok (.aload_n 0, 1) := by decide +kernel
theorem dX11_judge_56 : decode cX11_judge 56 = .ok (.getfield 241, 3) := by decide +kernel
theorem dX11_judge_59 : decode cX11_judge 59 = .ok (.laload, 1) := by decide +kernel
theorem dX11_judge_60 : decode cX11_judge 60 = .ok (.aload_n 0, 1) := by decide +kernel
theorem dX11_judge_61 : decode cX11_judge 61 = .ok (.getfield 82, 3) := by decide +kernel
theorem dX11_judge_64 : decode cX11_judge 64 = .ok (.iload_n 2, 1) := by decide +kernel
theorem dX11_judge_65 : decode cX11_judge 65 = .ok (.iaload, 1) := by decide +kernel
theorem dX11_judge_66 : decode cX11_judge 66 = .ok (.bipush 7, 2) := by decide +kernel
theorem dX11_judge_68 : decode cX11_judge 68 = .ok (.iconst 0, 1) := by decide +kernel
theorem dX11_judge_69 : decode cX11_judge 69 = .ok (.invokevirtual 369, 3) := by decide +kernel
theorem dX11_judge_72 : decode cX11_judge 72 = .ok (.aload_n 0, 1) := by decide +kernel
theorem dX11_judge_73 : decode cX11_judge 73 = .ok (.getfield 76, 3) := by decide +kernel
theorem dX11_judge_76 : decode cX11_judge 76 = .ok (.aload_n 0, 1) := by decide +kernel
theorem dX11_judge_77 : decode cX11_judge 77 = .ok (.getfield 85, 3) := by decide +kernel
theorem dX11_judge_80 : decode cX11_judge 80 = .ok (.iload_n 2, 1) := by decide +kernel
theorem dX11_judge_81 : decode cX11_judge 81 = .ok (.iaload, 1) := by decide +kernel
theorem dX11_judge_82 : decode cX11_judge 82 = .ok (.iaload, 1) := by decide +kernel
theorem dX11_judge_83 : decode cX11_judge 83 = .ok (.aload_n 0, 1) := by decide +kernel
theorem dX11_judge_84 : decode cX11_judge 84 = .ok (.getfield 88, 3) := by decide +kernel
theorem dX11_judge_87 : decode cX11_judge 87 = .ok (.iload_n 2, 1) := by decide +kernel
theorem dX11_judge_88 : decode cX11_judge 88 = .ok (.iaload, 1) := by decide +kernel
theorem dX11_judge_89 : decode cX11_judge 89 = .ok (.ishr, 1) := by decide +kernel
theorem dX11_judge_90 : decode cX11_judge 90 = .ok (.iconst 1, 1) := by decide +kernel
theorem dX11_judge_91 : decode cX11_judge 91 = .ok (.iand, 1) := by decide +kernel
theorem dX11_judge_92 : decode cX11_judge 92 = .ok (.ifCond .ne 7, 3) := by decide +kernel
theorem dX11_judge_95 : decode cX11_judge 95 = .ok (.iconst (-1), 1) := by decide +kernel
theorem dX11_judge_96 : decode cX11_judge 96 = .ok (.iload_n 2, 1) := by decide +kernel
theorem dX11_judge_97 : decode cX11_judge 97 = .ok (.isub, 1) := by decide +kernel
theorem dX11_judge_98 : decode cX11_judge 98 = .ok (.ireturn, 1) := by decide +kernel
theorem dX11_judge_99 : decode cX11_judge 99 = .ok (.iinc 2 1, 3) := by decide +kernel
theorem dX11_judge_102 : decode cX11_judge 102 = .ok (.goto (-87), 3) := by decide +kernel
theorem dX11_judge_105 : decode cX11_judge 105 = .ok (.iload_n 1, 1) := by decide +kernel
theorem dX11_judge_106 : decode cX11_judge 106 = .ok (.ireturn, 1) := by decide +kernel
noncomputable def f_X11_judge_L15 (a0 : Nat) (l1 : Int32) (s15 : Int32 × Mm) : Option ((Int32 × Mm) ⊕ ((Int32 × Mm) ⊕ ((Int32 × Mm) ⊕ (Mm)))) :=
  if l1 ≤ s15.1 then some (.inr (.inr (.inr s15.2))) else (gf_P 12 44 a0 s15.2).bind fun x22 => (ga_I x22 s15.1 s15.2).bind fun x26 => (f_X11_isPerson a0 x26 s15.2).bind fun x27 => if x27 = 0 then some (.inr (.inl (s15.1, s15.2))) else (gf_P 12 45 a0 s15.2).bind fun x35 => (ga_I x35 s15.1 s15.2).bind fun x39 => (f_X11_isFact a0 x39 s15.2).bind fun x40 => if x40 = 0 then some (.inr (.inl (s15.1, s15.2))) else (gf_P 12 34 a0 s15.2).bind fun x52 => (gf_I 12 33 a0 s15.2).bind fun x56 => (ga_L x52 x56 s15.2).bind fun x59 => (gf_P 12 43 a0 s15.2).bind fun x61 => (ga_I x61 s15.1 s15.2).bind fun x65 => (f_X11_live a0 x59 x65 (7 : Int32) (0 : Int32) s15.2).bind fun x69 => (gf_P 12 35 a0 x69).bind fun x73 => (gf_P 12 44 a0 x69).bind fun x77 => (ga_I x77 s15.1 x69).bind fun x81 => (ga_I x73 x81 x69).bind fun x82 => (gf_P 12 45 a0 x69).bind fun x84 => (ga_I x84 s15.1 x69).bind fun x88 => if ((x82 >>> (x88 &&& 31)) &&& (1 : Int32)) = 0 then some (.inr (.inr (.inl (s15.1, x69)))) else (some (s15.1 + (1 : Int32))).bind fun v99 => some (.inl (v99, x69))
noncomputable def f_X11_judge (a0 : Nat) (μ : Mm) : Option (Int32 × Mm) :=
  if (mm_K μ a0).1 = 12 then (f_X11_readBook a0 μ).bind fun x1 => if 0 ≤ x1.1 then (whl (f_X11_judge_L15 a0 x1.1) ((0 : Int32), x1.2)).bind (sm (fun b15 => some ((-1 : Int32) - b15.1, b15.2)) (sm (fun b15 => some ((-1 : Int32) - b15.1, b15.2)) (fun b15 => some (x1.1, b15)))) else some ((-1000 : Int32), x1.2) else none
abbrev Rn_X11_judge (G : Gv) (Q : Option Value → Mm → Prop) (pc : Nat) (lv : List (Nat × Value)) (st : List Value) (μ : Mm) : Prop := Rn G RX11 cX11_judge 3 (some .int) "judge" (rmd 8 0 0) (Zm G 0 0 Q) 0 0 pc lv st μ
set_option maxRecDepth 100000 in
set_option maxHeartbeats 4000000 in
theorem m_X11_judge {G : Gv} (a0 : Nat) (μ : Mm) {r : (Int32 × Mm)} (hx : f_X11_judge a0 μ = some r) : Mt G yX11_judge cX11_judge 3 (some .int) 8 0 0 [.ref a0] μ (fun v μ' => v = some (.int r.1) ∧ μ' = r.2) := by
  refine Mt.of (by decide) (Nat.le_of_ble_eq_true rfl) ?_
  show Rn_X11_judge G (fun v μ' => v = some (.int r.1) ∧ μ' = r.2) 0 [(0, .ref a0)] [] μ
  obtain ⟨_, h⟩ := Sat_ifp (show Sat (f_X11_judge a0 μ) (fun x => x = r) from ⟨_, hx, rfl⟩)
  refine r_aload_n dX11_judge_0 0 rfl ?_
  obtain ⟨x1, e1, h⟩ := Sat_bind h
  refine r_cV (t := 12) [] [] (m_X11_readBook a0 μ e1) ck_X11_readBook lk_X11_376 in_X11_readBook se_X11_readBook (kd_of e1) ⟨rfl, by decide, by decide⟩ rfl rfl (Nat.le_of_ble_eq_true rfl) ⟨by decide, by decide⟩ ⟨Nat.zero_le _, Nat.zero_le _⟩ dX11_judge_1 ?_
  refine r_istore_n (lv' := [(1, .int x1.1), (0, .ref a0)]) dX11_judge_4 rfl (by decide) rfl ?_
  refine r_iload_n dX11_judge_5 0 rfl ?_
  refine r_if_ge 13 dX11_judge_6 (by decide) (fun c6 => ?_) (fun c6 => ?_)
  · have h := Sat_pos c6 h
    refine r_iconst (v := 0) dX11_judge_13 (by decide) ?_
    refine r_istore_n (lv' := [(2, .int (0 : Int32)), (1, .int x1.1), (0, .ref a0)]) dX11_judge_14 rfl (by decide) rfl ?_
    refine r_sub (lv' := [(0, .ref a0), (1, .int x1.1), (2, .int (0 : Int32))]) [2, 1, 0] rfl ?_
    refine whl_K (s0 := (((0 : Int32), x1.2) : Int32 × Mm)) (RR := fun (s15 : Int32 × Mm) => Rn_X11_judge G (fun v μ' => v = some (.int r.1) ∧ μ' = r.2) 15 [(0, .ref a0), (1, .int x1.1), (2, .int s15.1)] [] s15.2) ?_ (Sat_bindK h)
    intro s15 K15 hI15 hX15 h
    refine r_iload_n dX11_judge_15 2 rfl ?_
    refine r_iload_n dX11_judge_16 1 rfl ?_
    refine r_icmp_ge 105 dX11_judge_17 (by decide) (fun c17 => ?_) (fun c17 => ?_)
    · have h := Sat_pos c17 h
      have h := hX15 _ (Sat_some h)
      refine r_iload_n dX11_judge_105 1 rfl ?_
      exact r_ireturn rfl (by rw [← Sat_eq h]; exact ⟨rfl, rfl⟩) dX11_judge_106
    · have h := Sat_neg c17 h
      refine r_aload_n dX11_judge_20 0 rfl ?_
      refine r_aload_n dX11_judge_21 0 rfl ?_
      obtain ⟨x22, e22, h⟩ := Sat_bind h
      refine r_getP fk_X11_85 rfl e22 dX11_judge_22 ?_
      refine r_iload_n dX11_judge_25 2 rfl ?_
      obtain ⟨x26, e26, h⟩ := Sat_bind h
      refine r_iaload e26 dX11_judge_26 ?_
      obtain ⟨x27, e27, h⟩ := Sat_bind h
      refine r_cV (t := 12) [.int x26] [] (m_X11_isPerson a0 x26 s15.2 e27) ck_X11_isPerson lk_X11_309 in_X11_isPerson se_X11_isPerson (kd_of e27) ⟨rfl, by decide, by decide⟩ rfl rfl (Nat.le_of_ble_eq_true rfl) ⟨by decide, by decide⟩ ⟨Nat.zero_le _, Nat.zero_le _⟩ dX11_judge_27 ?_
      refine r_if_eq 46 dX11_judge_30 (by decide) (fun c30 => ?_) (fun c30 => ?_)
      · have h := Sat_pos c30 h
        have h := hX15 _ (Sat_some h)
        refine r_iconst (v := -1) dX11_judge_46 (by decide) ?_
        refine r_iload_n dX11_judge_47 2 rfl ?_
        refine r_isub dX11_judge_48 ?_
        exact r_ireturn rfl (by rw [← Sat_eq h]; exact ⟨rfl, rfl⟩) dX11_judge_49
      · have h := Sat_neg c30 h
        refine r_aload_n dX11_judge_33 0 rfl ?_
        refine r_aload_n dX11_judge_34 0 rfl ?_
        obtain ⟨x35, e35, h⟩ := Sat_bind h
        refine r_getP fk_X11_88 rfl e35 dX11_judge_35 ?_
        refine r_iload_n dX11_judge_38 2 rfl ?_
        obtain ⟨x39, e39, h⟩ := Sat_bind h
        refine r_iaload e39 dX11_judge_39 ?_
        obtain ⟨x40, e40, h⟩ := Sat_bind h
        refine r_cV (t := 12) [.int x39] [] (m_X11_isFact a0 x39 s15.2 e40) ck_X11_isFact lk_X11_315 in_X11_isFact se_X11_isFact (kd_of e40) ⟨rfl, by decide, by decide⟩ rfl rfl (Nat.le_of_ble_eq_true rfl) ⟨by decide, by decide⟩ ⟨Nat.zero_le _, Nat.zero_le _⟩ dX11_judge_40 ?_
        refine r_if_ne 50 dX11_judge_43 (by decide) (fun c43 => ?_) (fun c43 => ?_)
        · have h := Sat_neg c43 h
          refine r_aload_n dX11_judge_50 0 rfl ?_
          refine r_aload_n dX11_judge_51 0 rfl ?_
          obtain ⟨x52, e52, h⟩ := Sat_bind h
          refine r_getP fk_X11_73 rfl e52 dX11_judge_52 ?_
          refine r_aload_n dX11_judge_55 0 rfl ?_
          obtain ⟨x56, e56, h⟩ := Sat_bind h
          refine r_getI fk_X11_241 rfl e56 dX11_judge_56 ?_
          obtain ⟨x59, e59, h⟩ := Sat_bind h
          refine r_laload e59 dX11_judge_59 ?_
          refine r_aload_n dX11_judge_60 0 rfl ?_
          obtain ⟨x61, e61, h⟩ := Sat_bind h
          refine r_getP fk_X11_82 rfl e61 dX11_judge_61 ?_
          refine r_iload_n dX11_judge_64 2 rfl ?_
          obtain ⟨x65, e65, h⟩ := Sat_bind h
          refine r_iaload e65 dX11_judge_65 ?_
          refine r_bipush (v := 7) dX11_judge_66 (by decide) ?_
          refine r_iconst (v := 0) dX11_judge_68 (by decide) ?_
          obtain ⟨x69, e69, h⟩ := Sat_bind h
          refine r_cV (t := 12) [.long x59, .int x65, .int (7 : Int32), .int (0 : Int32)] [] (m_X11_live a0 x59 x65 (7 : Int32) (0 : Int32) s15.2 e69) ck_X11_live lk_X11_369 in_X11_live se_X11_live (kd_of e69) ⟨rfl, by decide, by decide⟩ rfl rfl (Nat.le_of_ble_eq_true rfl) ⟨by decide, by decide⟩ ⟨Nat.zero_le _, Nat.zero_le _⟩ dX11_judge_69 ?_
          refine r_aload_n dX11_judge_72 0 rfl ?_
          obtain ⟨x73, e73, h⟩ := Sat_bind h
          refine r_getP fk_X11_76 rfl e73 dX11_judge_73 ?_
          refine r_aload_n dX11_judge_76 0 rfl ?_
          obtain ⟨x77, e77, h⟩ := Sat_bind h
          refine r_getP fk_X11_85 rfl e77 dX11_judge_77 ?_
          refine r_iload_n dX11_judge_80 2 rfl ?_
          obtain ⟨x81, e81, h⟩ := Sat_bind h
          refine r_iaload e81 dX11_judge_81 ?_
          obtain ⟨x82, e82, h⟩ := Sat_bind h
          refine r_iaload e82 dX11_judge_82 ?_
          refine r_aload_n dX11_judge_83 0 rfl ?_
          obtain ⟨x84, e84, h⟩ := Sat_bind h
          refine r_getP fk_X11_88 rfl e84 dX11_judge_84 ?_
          refine r_iload_n dX11_judge_87 2 rfl ?_
          obtain ⟨x88, e88, h⟩ := Sat_bind h
          refine r_iaload e88 dX11_judge_88 ?_
          refine r_ishr dX11_judge_89 ?_
          refine r_iconst (v := 1) dX11_judge_90 (by decide) ?_
          refine r_iand dX11_judge_91 ?_
          refine r_if_ne 99 dX11_judge_92 (by decide) (fun c92 => ?_) (fun c92 => ?_)
          · have h := Sat_neg c92 h
            obtain ⟨v99, e99, h⟩ := Sat_bind h
            refine r_iinc (j := 2) (v := v99) (lv' := [(2, .int v99), (0, .ref a0), (1, .int x1.1)]) dX11_judge_99 rfl (iinc_v e99 (by decide)) (by decide) rfl ?_
            refine r_goto 15 dX11_judge_102 (by decide) ?_
            exact r_sub [1, 2, 0] rfl (hI15 _ (Sat_some h))
          · have h := Sat_pos c92 h
            have h := hX15 _ (Sat_some h)
            refine r_iconst (v := -1) dX11_judge_95 (by decide) ?_
            refine r_iload_n dX11_judge_96 2 rfl ?_
            refine r_isub dX11_judge_97 ?_
            exact r_ireturn rfl (by rw [← Sat_eq h]; exact ⟨rfl, rfl⟩) dX11_judge_98
        · have h := Sat_pos c43 h
          have h := hX15 _ (Sat_some h)
          refine r_iconst (v := -1) dX11_judge_46 (by decide) ?_
          refine r_iload_n dX11_judge_47 2 rfl ?_
          refine r_isub dX11_judge_48 ?_
          exact r_ireturn rfl (by rw [← Sat_eq h]; exact ⟨rfl, rfl⟩) dX11_judge_49
  · have h := Sat_neg c6 h
    refine r_sipush (v := -1000) dX11_judge_9 (by decide) ?_
    exact r_ireturn rfl (by rw [← Sat_eq h]; exact ⟨rfl, rfl⟩) dX11_judge_12
theorem dX11_keep_0 : decode cX11_keep 0 = .ok (.iload_n 1, 1) := by decide +kernel
theorem dX11_keep_1 : decode cX11_keep 1 = .ok (.invokestatic 466, 3) := by decide +kernel
theorem dX11_keep_4 : decode cX11_keep 4 = .ok (.ifCond .ne 6, 3) := by decide +kernel
theorem dX11_keep_7 : decode cX11_keep 7 = .ok (.bipush (-2), 2) := by decide +kernel
theorem dX11_keep_9 : decode cX11_keep 9 = .ok (.ireturn, 1) := by decide +kernel
theorem dX11_keep_10 : decode cX11_keep 10 = .ok (.aload_n 0, 1) := by decide +kernel
theorem dX11_keep_11 : decode cX11_keep 11 = .ok (.getfield 253, 3) := by decide +kernel
theorem dX11_keep_14 : decode cX11_keep 14 = .ok (.ifCond .ne 6, 3) := by decide +kernel
theorem dX11_keep_17 : decode cX11_keep 17 = .ok (.bipush (-4), 2) := by decide +kernel
theorem dX11_keep_19 : decode cX11_keep 19 = .ok (.ireturn, 1) := by decide +kernel
theorem dX11_keep_20 : decode cX11_keep 20 = .ok (.aload_n 0, 1) := by decide +kernel
theorem dX11_keep_21 : decode cX11_keep 21 = .ok (.getfield 145, 3) := by decide +kernel
theorem dX11_keep_24 : decode cX11_keep 24 = .ok (.iload_n 1, 1) := by decide +kernel
theorem dX11_keep_25 : decode cX11_keep 25 = .ok (.iconst 1, 1) := by decide +kernel
theorem dX11_keep_26 : decode cX11_keep 26 = .ok (.bastore, 1) := by decide +kernel
theorem dX11_keep_27 : decode cX11_keep 27 = .ok (.aload_n 0, 1) := by decide +kernel
theorem dX11_keep_28 : decode cX11_keep 28 = .ok (.getfield 136, 3) := by decide +kernel
theorem dX11_keep_31 : decode cX11_keep 31 = .ok (.iload_n 1, 1) := by decide +kernel
theorem dX11_keep_32 : decode cX11_keep 32 = .ok (.aload_n 0, 1) := by decide +kernel
theorem dX11_keep_33 : decode cX11_keep 33 = .ok (.getfield 446, 3) := by decide +kernel
theorem dX11_keep_36 : decode cX11_keep 36 = .ok (.iastore, 1) := by decide +kernel
theorem dX11_keep_37 : decode cX11_keep 37 = .ok (.aload_n 0, 1) := by decide +kernel
theorem dX11_keep_38 : decode cX11_keep 38 = .ok (.getfield 139, 3) := by decide +kernel
theorem dX11_keep_41 : decode cX11_keep 41 = .ok (.iload_n 1, 1) := by decide +kernel
theorem dX11_keep_42 : decode cX11_keep 42 = .ok (.aload_n 0, 1) := by decide +kernel
theorem dX11_keep_43 : decode cX11_keep 43 = .ok (.getfield 449, 3) := by decide +kernel
theorem dX11_keep_46 : decode cX11_keep 46 = .ok (.iastore, 1) := by decide +kernel
theorem dX11_keep_47 : decode cX11_keep 47 = .ok (.aload_n 0, 1) := by decide +kernel
theorem dX11_keep_48 : decode cX11_keep 48 = .ok (.getfield 142, 3) := by decide +kernel
theorem dX11_keep_51 : decode cX11_keep 51 = .ok (.iload_n 1, 1) := by decide +kernel
theorem dX11_keep_52 : decode cX11_keep 52 = .ok (.aload_n 0, 1) := by decide +kernel
theorem dX11_keep_53 : decode cX11_keep 53 = .ok (.getfield 443, 3) := by decide +kernel
theorem dX11_keep_56 : decode cX11_keep 56 = .ok (.lastore, 1) := by decide +kernel
theorem dX11_keep_57 : decode cX11_keep 57 = .ok (.iconst 0, 1) := by decide +kernel
theorem dX11_keep_58 : decode cX11_keep 58 = .ok (.istore_n 2, 1) := by decide +kernel
theorem dX11_keep_59 : decode cX11_keep 59 = .ok (.iload_n 2, 1) := by decide +kernel
theorem dX11_keep_60 : decode cX11_keep 60 = .ok (.bipush 8, 2) := by decide +kernel
theorem dX11_keep_62 : decode cX11_keep 62 = .ok (.if_icmp .ge 28, 3) := by decide +kernel
theorem dX11_keep_65 : decode cX11_keep 65 = .ok (.aload_n 0, 1) := by decide +kernel
theorem dX11_keep_66 : decode cX11_keep 66 = .ok (.getfield 133, 3) := by decide +kernel
theorem dX11_keep_69 : decode cX11_keep 69 = .ok (.bipush 8, 2) := by decide +kernel
theorem dX11_keep_71 : decode cX11_keep 71 = .ok (.iload_n 1, 1) := by decide +kernel
theorem dX11_keep_72 : decode cX11_keep 72 = .ok (.iconst 1, 1) := by decide +kernel
theorem dX11_keep_73 : decode cX11_keep 73 = .ok (.iadd, 1) := by decide +kernel
theorem dX11_keep_74 : decode cX11_keep 74 = .ok (.imul, 1) := by decide +kernel
theorem dX11_keep_75 : decode cX11_keep 75 = .ok (.iload_n 2, 1) := by decide +kernel
theorem dX11_keep_76 : decode cX11_keep 76 = .ok (.iadd, 1) := by decide +kernel
theorem dX11_keep_77 : decode cX11_keep 77 = .ok (.aload_n 0, 1) := by decide +kernel
theorem dX11_keep_78 : decode cX11_keep 78 = .ok (.getfield 133, 3) := by decide +kernel
theorem dX11_keep_81 : decode cX11_keep 81 = .ok (.iload_n 2, 1) := by decide +kernel
theorem dX11_keep_82 : decode cX11_keep 82 = .ok (.iaload, 1) := by decide +kernel
theorem dX11_keep_83 : decode cX11_keep 83 = .ok (.iastore, 1) := by decide +kernel
theorem dX11_keep_84 : decode cX11_keep 84 = .ok (.iinc 2 1, 3) := by decide +kernel
theorem dX11_keep_87 : decode cX11_keep 87 = .ok (.goto (-28), 3) := by decide +kernel
theorem dX11_keep_90 : decode cX11_keep 90 = .ok (.aload_n 0, 1) := by decide +kernel
theorem dX11_keep_91 : decode cX11_keep 91 = .ok (.getfield 449, 3) := by decide +kernel
theorem dX11_keep_94 : decode cX11_keep 94 = .ok (.ireturn, 1) := by decide +kernel
noncomputable def f_X11_keep_J90 (a0 : Nat) (μ : Mm) : Option (Int32 × Mm) :=
  (gf_I 12 66 a0 μ).bind fun x91 => some (x91, μ)
noncomputable def f_X11_keep_L59 (a0 : Nat) (l1 : Int32) (s59 : Int32 × Mm) : Option ((Int32 × Mm) ⊕ (Mm)) :=
  if (8 : Int32) ≤ s59.1 then some (.inr s59.2) else (gf_P 12 68 a0 s59.2).bind fun x66 => (gf_P 12 68 a0 s59.2).bind fun x78 => (ga_I x78 s59.1 s59.2).bind fun x82 => (pa_I x66 (((8 : Int32) * (l1 + (1 : Int32))) + s59.1) x82 s59.2).bind fun μ83 => (some (s59.1 + (1 : Int32))).bind fun v84 => some (.inl (v84, μ83))
noncomputable def f_X11_keep (a0 : Nat) (l1 : Int32) (μ : Mm) : Option (Int32 × Mm) :=
  if (mm_K μ a0).1 = 12 then (f_X11_isSlot l1 μ).bind fun x1 => if x1 = 0 then some ((-2 : Int32), μ) else (gf_I 12 64 a0 μ).bind fun x11 => if x11 = 0 then some ((-4 : Int32), μ) else (gf_P 12 72 a0 μ).bind fun x21 => (pa_Z x21 l1 (1 : Int32) μ).bind fun μ26 => (gf_P 12 69 a0 μ26).bind fun x28 => (gf_I 12 65 a0 μ26).bind fun x33 => (pa_I x28 l1 x33 μ26).bind fun μ36 => (gf_P 12 70 a0 μ36).bind fun x38 => (gf_I 12 66 a0 μ36).bind fun x43 => (pa_I x38 l1 x43 μ36).bind fun μ46 => (gf_P 12 71 a0 μ46).bind fun x48 => (gf_L 12 67 a0 μ46).bind fun x53 => (pa_L x48 l1 x53 μ46).bind fun μ56 => (whl (f_X11_keep_L59 a0 l1) ((0 : Int32), μ56)).bind (fun b59 => f_X11_keep_J90 a0 b59) else none
abbrev Rn_X11_keep (G : Gv) (Q : Option Value → Mm → Prop) (pc : Nat) (lv : List (Nat × Value)) (st : List Value) (μ : Mm) : Prop := Rn G RX11 cX11_keep 3 (some .int) "keep" (rmd 2 0 0) (Zm G 0 0 Q) 0 0 pc lv st μ
set_option maxRecDepth 100000 in
set_option maxHeartbeats 4000000 in
theorem m_X11_keep {G : Gv} (a0 : Nat) (l1 : Int32) (μ : Mm) {r : (Int32 × Mm)} (hx : f_X11_keep a0 l1 μ = some r) : Mt G yX11_keep cX11_keep 3 (some .int) 2 0 0 [.ref a0, .int l1] μ (fun v μ' => v = some (.int r.1) ∧ μ' = r.2) := by
  refine Mt.of (by decide) (Nat.le_of_ble_eq_true rfl) ?_
  show Rn_X11_keep G (fun v μ' => v = some (.int r.1) ∧ μ' = r.2) 0 [(0, .ref a0), (1, .int l1)] [] μ
  obtain ⟨_, h⟩ := Sat_ifp (show Sat (f_X11_keep a0 l1 μ) (fun x => x = r) from ⟨_, hx, rfl⟩)
  have J90 : ∀ (a0_90 : Nat) (μ_90 : Mm), Sat (f_X11_keep_J90 a0_90 μ_90) (fun x => x = r) → Rn_X11_keep G (fun v μ' => v = some (.int r.1) ∧ μ' = r.2) 90 [(0, .ref a0_90)] [] μ_90 := by
    intro a0_90 μ_90 h
    refine r_aload_n dX11_keep_90 0 rfl ?_
    obtain ⟨x91, e91, h⟩ := Sat_bind h
    refine r_getI fk_X11_449 rfl e91 dX11_keep_91 ?_
    exact r_ireturn rfl (by rw [← Sat_eq h]; exact ⟨rfl, rfl⟩) dX11_keep_94
  refine r_iload_n dX11_keep_0 1 rfl ?_
  obtain ⟨x1, e1, h⟩ := Sat_bind h
  refine r_cS [.int l1] [] (m_X11_isSlot l1 μ e1) ck_X11_isSlot lk_X11_466 st_X11_isSlot rfl rfl (Nat.le_of_ble_eq_true rfl) ⟨by decide, by decide⟩ ⟨Nat.zero_le _, Nat.zero_le _⟩ dX11_keep_1 ?_
  refine r_if_ne 10 dX11_keep_4 (by decide) (fun c4 => ?_) (fun c4 => ?_)
  · have h := Sat_neg c4 h
    refine r_aload_n dX11_keep_10 0 rfl ?_
    obtain ⟨x11, e11, h⟩ := Sat_bind h
    refine r_getI fk_X11_253 rfl e11 dX11_keep_11 ?_
    refine r_if_ne 20 dX11_keep_14 (by decide) (fun c14 => ?_) (fun c14 => ?_)
    · have h := Sat_neg c14 h
      refine r_aload_n dX11_keep_20 0 rfl ?_
      obtain ⟨x21, e21, h⟩ := Sat_bind h
      refine r_getP fk_X11_145 rfl e21 dX11_keep_21 ?_
      refine r_iload_n dX11_keep_24 1 rfl ?_
      refine r_iconst (v := 1) dX11_keep_25 (by decide) ?_
      obtain ⟨μ26, e26, h⟩ := Sat_bind h
      refine r_zastore e26 dX11_keep_26 ?_
      refine r_aload_n dX11_keep_27 0 rfl ?_
      obtain ⟨x28, e28, h⟩ := Sat_bind h
      refine r_getP fk_X11_136 rfl e28 dX11_keep_28 ?_
      refine r_iload_n dX11_keep_31 1 rfl ?_
      refine r_aload_n dX11_keep_32 0 rfl ?_
      obtain ⟨x33, e33, h⟩ := Sat_bind h
      refine r_getI fk_X11_446 rfl e33 dX11_keep_33 ?_
      obtain ⟨μ36, e36, h⟩ := Sat_bind h
      refine r_iastore e36 dX11_keep_36 ?_
      refine r_aload_n dX11_keep_37 0 rfl ?_
      obtain ⟨x38, e38, h⟩ := Sat_bind h
      refine r_getP fk_X11_139 rfl e38 dX11_keep_38 ?_
      refine r_iload_n dX11_keep_41 1 rfl ?_
      refine r_aload_n dX11_keep_42 0 rfl ?_
      obtain ⟨x43, e43, h⟩ := Sat_bind h
      refine r_getI fk_X11_449 rfl e43 dX11_keep_43 ?_
      obtain ⟨μ46, e46, h⟩ := Sat_bind h
      refine r_iastore e46 dX11_keep_46 ?_
      refine r_aload_n dX11_keep_47 0 rfl ?_
      obtain ⟨x48, e48, h⟩ := Sat_bind h
      refine r_getP fk_X11_142 rfl e48 dX11_keep_48 ?_
      refine r_iload_n dX11_keep_51 1 rfl ?_
      refine r_aload_n dX11_keep_52 0 rfl ?_
      obtain ⟨x53, e53, h⟩ := Sat_bind h
      refine r_getL fk_X11_443 rfl e53 dX11_keep_53 ?_
      obtain ⟨μ56, e56, h⟩ := Sat_bind h
      refine r_lastore e56 dX11_keep_56 ?_
      refine r_iconst (v := 0) dX11_keep_57 (by decide) ?_
      refine r_istore_n (lv' := [(2, .int (0 : Int32)), (0, .ref a0), (1, .int l1)]) dX11_keep_58 rfl (by decide) rfl ?_
      refine r_sub (lv' := [(0, .ref a0), (1, .int l1), (2, .int (0 : Int32))]) [1, 2, 0] rfl ?_
      refine whl_K (s0 := (((0 : Int32), μ56) : Int32 × Mm)) (RR := fun (s59 : Int32 × Mm) => Rn_X11_keep G (fun v μ' => v = some (.int r.1) ∧ μ' = r.2) 59 [(0, .ref a0), (1, .int l1), (2, .int s59.1)] [] s59.2) ?_ (Sat_bindK h)
      intro s59 K59 hI59 hX59 h
      refine r_iload_n dX11_keep_59 2 rfl ?_
      refine r_bipush (v := 8) dX11_keep_60 (by decide) ?_
      refine r_icmp_ge 90 dX11_keep_62 (by decide) (fun c62 => ?_) (fun c62 => ?_)
      · have h := Sat_pos c62 h
        have h := hX59 _ (Sat_some h)
        exact r_sub [0] rfl (J90 a0 s59.2 h)
      · have h := Sat_neg c62 h
        refine r_aload_n dX11_keep_65 0 rfl ?_
        obtain ⟨x66, e66, h⟩ := Sat_bind h
        refine r_getP fk_X11_133 rfl e66 dX11_keep_66 ?_
        refine r_bipush (v := 8) dX11_keep_69 (by decide) ?_
        refine r_iload_n dX11_keep_71 1 rfl ?_
        refine r_iconst (v := 1) dX11_keep_72 (by decide) ?_
        refine r_iadd dX11_keep_73 ?_
        refine r_imul dX11_keep_74 ?_
        refine r_iload_n dX11_keep_75 2 rfl ?_
        refine r_iadd dX11_keep_76 ?_
        refine r_aload_n dX11_keep_77 0 rfl ?_
        obtain ⟨x78, e78, h⟩ := Sat_bind h
        refine r_getP fk_X11_133 rfl e78 dX11_keep_78 ?_
        refine r_iload_n dX11_keep_81 2 rfl ?_
        obtain ⟨x82, e82, h⟩ := Sat_bind h
        refine r_iaload e82 dX11_keep_82 ?_
        obtain ⟨μ83, e83, h⟩ := Sat_bind h
        refine r_iastore e83 dX11_keep_83 ?_
        obtain ⟨v84, e84, h⟩ := Sat_bind h
        refine r_iinc (j := 2) (v := v84) (lv' := [(2, .int v84), (0, .ref a0), (1, .int l1)]) dX11_keep_84 rfl (iinc_v e84 (by decide)) (by decide) rfl ?_
        refine r_goto 59 dX11_keep_87 (by decide) ?_
        exact r_sub [1, 2, 0] rfl (hI59 _ (Sat_some h))
    · have h := Sat_pos c14 h
      refine r_bipush (v := -4) dX11_keep_17 (by decide) ?_
      exact r_ireturn rfl (by rw [← Sat_eq h]; exact ⟨rfl, rfl⟩) dX11_keep_19
  · have h := Sat_pos c4 h
    refine r_bipush (v := -2) dX11_keep_7 (by decide) ?_
    exact r_ireturn rfl (by rw [← Sat_eq h]; exact ⟨rfl, rfl⟩) dX11_keep_9
theorem dX11_kept_0 : decode cX11_kept 0 = .ok (.aload_n 0, 1) := by decide +kernel
theorem dX11_kept_1 : decode cX11_kept 1 = .ok (.iload_n 1, 1) := by decide +kernel
theorem dX11_kept_2 : decode cX11_kept 2 = .ok (.invokevirtual 309, 3) := by decide +kernel
theorem dX11_kept_5 : decode cX11_kept 5 = .ok (.ifCond .eq 18, 3) := by decide +kernel
theorem dX11_kept_8 : decode cX11_kept 8 = .ok (.aload_n 0, 1) := by decide +kernel
theorem dX11_kept_9 : decode cX11_kept 9 = .ok (.iload_n 2, 1) := by decide +kernel
theorem dX11_kept_10 : decode cX11_kept 10 = .ok (.invokevirtual 315, 3) := by decide +kernel
theorem dX11_kept_13 : decode cX11_kept 13 = .ok (.ifCond .eq 10, 3) := by decide +kernel
theorem dX11_kept_16 : decode cX11_kept 16 = .ok (.iload_n 3, 1) := by decide +kernel
theorem dX11_kept_17 : decode cX11_kept 17 = .ok (.invokestatic 363, 3) := by decide +kernel
theorem dX11_kept_20 : decode cX11_kept 20 = .ok (.ifCond .ne 6, 3) := by decide +kernel
theorem dX11_kept_23 : decode cX11_kept 23 = .ok (.bipush (-2), 2) := by decide +kernel
theorem dX11_kept_25 : decode cX11_kept 25 = .ok (.ireturn, 1) := by decide +kernel
theorem dX11_kept_26 : decode cX11_kept 26 = .ok (.iconst (-1), 1) := by decide +kernel
theorem dX11_kept_27 : decode cX11_kept 27 = .ok (.istore 4, 2) := by decide +kernel
theorem dX11_kept_29 : decode cX11_kept 29 = .ok (.iconst 0, 1) := by decide +kernel
theorem dX11_kept_30 : decode cX11_kept 30 = .ok (.istore 5, 2) := by decide +kernel
theorem dX11_kept_32 : decode cX11_kept 32 = .ok (.iload 5, 2) := by decide +kernel
theorem dX11_kept_34 : decode cX11_kept 34 = .ok (.iconst 1, 1) := by decide +kernel
theorem dX11_kept_35 : decode cX11_kept 35 = .ok (.aload_n 0, 1) := by decide +kernel
theorem dX11_kept_36 : decode cX11_kept 36 = .ok (.getfield 17, 3) := by decide +kernel
theorem dX11_kept_39 : decode cX11_kept 39 = .ok (.iconst 0, 1) := by decide +kernel
theorem dX11_kept_40 : decode cX11_kept 40 = .ok (.iaload, 1) := by decide +kernel
theorem dX11_kept_41 : decode cX11_kept 41 = .ok (.ishl, 1) := by decide +kernel
theorem dX11_kept_42 : decode cX11_kept 42 = .ok (.if_icmp .ge 71, 3) := by decide +kernel
theorem dX11_kept_45 : decode cX11_kept 45 = .ok (.iload 4, 2) := by decide +kernel
theorem dX11_kept_47 : decode cX11_kept 47 = .ok (.iconst (-1), 1) := by decide +kernel
theorem dX11_kept_48 : decode cX11_kept 48 = .ok (.if_icmp .eq 19, 3) := by decide +kernel
theorem dX11_kept_51 : decode cX11_kept 51 = .ok (.iload 5, 2) := by decide +kernel
theorem dX11_kept_53 : decode cX11_kept 53 = .ok (.invokestatic 407, 3) := by decide +kernel
theorem dX11_kept_56 : decode cX11_kept 56 = .ok (.iload 4, 2) := by decide +kernel
theorem dX11_kept_58 : decode cX11_kept 58 = .ok (.invokestatic 407, 3) := by decide +kernel
theorem dX11_kept_61 : decode cX11_kept 61 = .ok (.if_icmp .lt 6, 3) := by decide +kernel
theorem dX11_kept_64 : decode cX11_kept 64 = .ok (.goto 43, 3) := by decide +kernel
theorem dX11_kept_67 : decode cX11_kept 67 = .ok (.aload_n 0, 1) := by decide +kernel
theorem dX11_kept_68 : decode cX11_kept 68 = .ok (.iload 5, 2) := by decide +kernel
theorem dX11_kept_70 : decode cX11_kept 70 = .ok (.putfield 337, 3) := by decide +kernel
theorem dX11_kept_73 : decode cX11_kept 73 = .ok (.aload_n 0, 1) := by decide +kernel
theorem dX11_kept_74 : decode cX11_kept 74 = .ok (.aload_n 0, 1) := by decide +kernel
theorem dX11_kept_75 : decode cX11_kept 75 = .ok (.getfield 73, 3) := by decide +kernel
theorem dX11_kept_78 : decode cX11_kept 78 = .ok (.aload_n 0, 1) := by decide +kernel
theorem dX11_kept_79 : decode cX11_kept 79 = .ok (.getfield 241, 3) := by decide +kernel
theorem dX11_kept_82 : decode cX11_kept 82 = .ok (.laload, 1) := by decide +kernel
theorem dX11_kept_83 : decode cX11_kept 83 = .ok (.iload_n 3, 1) := by decide +kernel
theorem dX11_kept_84 : decode cX11_kept 84 = .ok (.bipush 7, 2) := by decide +kernel
theorem dX11_kept_86 : decode cX11_kept 86 = .ok (.iconst 1, 1) := by decide +kernel
theorem dX11_kept_87 : decode cX11_kept 87 = .ok (.invokevirtual 369, 3) := by decide +kernel
theorem dX11_kept_90 : decode cX11_kept 90 = .ok (.aload_n 0, 1) := by decide +kernel
theorem dX11_kept_91 : decode cX11_kept 91 = .ok (.getfield 76, 3) := by decide +kernel
theorem dX11_kept_94 : decode cX11_kept 94 = .ok (.iload_n 1, 1) := by decide +kernel
theorem dX11_kept_95 : decode cX11_kept 95 = .ok (.iaload, 1) := by decide +kernel
theorem dX11_kept_96 : decode cX11_kept 96 = .ok (.iload_n 2, 1) := by decide +kernel
theorem dX11_kept_97 : decode cX11_kept 97 = .ok (.ishr, 1) := by decide +kernel
theorem dX11_kept_98 : decode cX11_kept 98 = .ok (.iconst 1, 1) := by decide +kernel
theorem dX11_kept_99 : decode cX11_kept 99 = .ok (.iand, 1) := by decide +kernel
theorem dX11_kept_100 : decode cX11_kept 100 = .ok (.ifCond .ne 7, 3) := by decide +kernel
theorem dX11_kept_103 : decode cX11_kept 103 = .ok (.iload 5, 2) := by decide +kernel
theorem dX11_kept_105 : decode cX11_kept 105 = .ok (.istore 4, 2) := by decide +kernel
theorem dX11_kept_107 : decode cX11_kept 107 = .ok (.iinc 5 1, 3) := by decide +kernel
theorem dX11_kept_110 : decode cX11_kept 110 = .ok (.goto (-78), 3) := by decide +kernel
theorem dX11_kept_113 : decode cX11_kept 113 = .ok (.aload_n 0, 1) := by decide +kernel
theorem dX11_kept_114 : decode cX11_kept 114 = .ok (.iconst 0, 1) := by decide +kernel
theorem dX11_kept_115 : decode cX11_kept 115 = .ok (.putfield 337, 3) := by decide +kernel
theorem dX11_kept_118 : decode cX11_kept 118 = .ok (.iload 4, 2) := by decide +kernel
theorem dX11_kept_120 : decode cX11_kept 120 = .ok (.ireturn, 1) := by decide +kernel
noncomputable def f_X11_kept_J113 (a0 : Nat) (l4 : Int32) (μ : Mm) : Option (Int32 × Mm) :=
  (pf_I 12 37 a0 (0 : Int32) μ).bind fun μ115 => some (l4, μ115)
noncomputable def f_X11_kept_J107 (a0 : Nat) (l1 : Int32) (l2 : Int32) (l3 : Int32) (l4 : Int32) (l5 : Int32) (μ : Mm) : Option ((Int32 × Int32 × Mm) ⊕ (Int32 × Mm)) :=
  (some (l5 + (1 : Int32))).bind fun v107 => some (.inl (l4, v107, μ))
noncomputable def f_X11_kept_J67 (a0 : Nat) (l1 : Int32) (l2 : Int32) (l3 : Int32) (l4 : Int32) (l5 : Int32) (μ : Mm) : Option ((Int32 × Int32 × Mm) ⊕ (Int32 × Mm)) :=
  (pf_I 12 37 a0 l5 μ).bind fun μ70 => (gf_P 12 34 a0 μ70).bind fun x75 => (gf_I 12 33 a0 μ70).bind fun x79 => (ga_L x75 x79 μ70).bind fun x82 => (f_X11_live a0 x82 l3 (7 : Int32) (1 : Int32) μ70).bind fun x87 => (gf_P 12 35 a0 x87).bind fun x91 => (ga_I x91 l1 x87).bind fun x95 => if ((x95 >>> (l2 &&& 31)) &&& (1 : Int32)) = 0 then f_X11_kept_J107 a0 l1 l2 l3 l5 l5 x87 else f_X11_kept_J107 a0 l1 l2 l3 l4 l5 x87
noncomputable def f_X11_kept_L32 (a0 : Nat) (l1 : Int32) (l2 : Int32) (l3 : Int32) (s32 : Int32 × Int32 × Mm) : Option ((Int32 × Int32 × Mm) ⊕ (Int32 × Mm)) :=
  (gf_P 12 12 a0 s32.2.2).bind fun x36 => (ga_I x36 (0 : Int32) s32.2.2).bind fun x40 => if ((1 : Int32) <<< (x40 &&& 31)) ≤ s32.2.1 then some (.inr (s32.1, s32.2.2)) else if s32.1 = (-1 : Int32) then f_X11_kept_J67 a0 l1 l2 l3 s32.1 s32.2.1 s32.2.2 else (f_X11_bits s32.2.1 s32.2.2).bind fun x53 => (f_X11_bits s32.1 s32.2.2).bind fun x58 => if x53 < x58 then f_X11_kept_J67 a0 l1 l2 l3 s32.1 s32.2.1 s32.2.2 else f_X11_kept_J107 a0 l1 l2 l3 s32.1 s32.2.1 s32.2.2
noncomputable def f_X11_kept (a0 : Nat) (l1 : Int32) (l2 : Int32) (l3 : Int32) (μ : Mm) : Option (Int32 × Mm) :=
  if (mm_K μ a0).1 = 12 then (f_X11_isPerson a0 l1 μ).bind fun x2 => if x2 = 0 then some ((-2 : Int32), μ) else (f_X11_isFact a0 l2 μ).bind fun x10 => if x10 = 0 then some ((-2 : Int32), μ) else (f_X11_isDay l3 μ).bind fun x17 => if x17 = 0 then some ((-2 : Int32), μ) else (whl (f_X11_kept_L32 a0 l1 l2 l3) ((-1 : Int32), (0 : Int32), μ)).bind (fun b32 => f_X11_kept_J113 a0 b32.1 b32.2) else none
abbrev Rn_X11_kept (G : Gv) (Q : Option Value → Mm → Prop) (pc : Nat) (lv : List (Nat × Value)) (st : List Value) (μ : Mm) : Prop := Rn G RX11 cX11_kept 6 (some .int) "kept" (rmd 4 0 0) (Zm G 0 0 Q) 0 0 pc lv st μ
set_option maxRecDepth 100000 in
set_option maxHeartbeats 4000000 in
theorem m_X11_kept {G : Gv} (a0 : Nat) (l1 : Int32) (l2 : Int32) (l3 : Int32) (μ : Mm) {r : (Int32 × Mm)} (hx : f_X11_kept a0 l1 l2 l3 μ = some r) : Mt G yX11_kept cX11_kept 6 (some .int) 4 0 0 [.ref a0, .int l1, .int l2, .int l3] μ (fun v μ' => v = some (.int r.1) ∧ μ' = r.2) := by
  refine Mt.of (by decide) (Nat.le_of_ble_eq_true rfl) ?_
  show Rn_X11_kept G (fun v μ' => v = some (.int r.1) ∧ μ' = r.2) 0 [(0, .ref a0), (1, .int l1), (2, .int l2), (3, .int l3)] [] μ
  obtain ⟨_, h⟩ := Sat_ifp (show Sat (f_X11_kept a0 l1 l2 l3 μ) (fun x => x = r) from ⟨_, hx, rfl⟩)
  have J113 : ∀ (a0_113 : Nat) (l4_113 : Int32) (μ_113 : Mm), Sat (f_X11_kept_J113 a0_113 l4_113 μ_113) (fun x => x = r) → Rn_X11_kept G (fun v μ' => v = some (.int r.1) ∧ μ' = r.2) 113 [(0, .ref a0_113), (4, .int l4_113)] [] μ_113 := by
    intro a0_113 l4_113 μ_113 h
    refine r_aload_n dX11_kept_113 0 rfl ?_
    refine r_iconst (v := 0) dX11_kept_114 (by decide) ?_
    obtain ⟨μ115, e115, h⟩ := Sat_bind h
    refine r_putI fk_X11_337 rfl rfl e115 dX11_kept_115 ?_
    refine r_iload dX11_kept_118 1 rfl ?_
    exact r_ireturn rfl (by rw [← Sat_eq h]; exact ⟨rfl, rfl⟩) dX11_kept_120
  refine r_aload_n dX11_kept_0 0 rfl ?_
  refine r_iload_n dX11_kept_1 1 rfl ?_
  obtain ⟨x2, e2, h⟩ := Sat_bind h
  refine r_cV (t := 12) [.int l1] [] (m_X11_isPerson a0 l1 μ e2) ck_X11_isPerson lk_X11_309 in_X11_isPerson se_X11_isPerson (kd_of e2) ⟨rfl, by decide, by decide⟩ rfl rfl (Nat.le_of_ble_eq_true rfl) ⟨by decide, by decide⟩ ⟨Nat.zero_le _, Nat.zero_le _⟩ dX11_kept_2 ?_
  refine r_if_eq 23 dX11_kept_5 (by decide) (fun c5 => ?_) (fun c5 => ?_)
  · have h := Sat_pos c5 h
    refine r_bipush (v := -2) dX11_kept_23 (by decide) ?_
    exact r_ireturn rfl (by rw [← Sat_eq h]; exact ⟨rfl, rfl⟩) dX11_kept_25
  · have h := Sat_neg c5 h
    refine r_aload_n dX11_kept_8 0 rfl ?_
    refine r_iload_n dX11_kept_9 2 rfl ?_
    obtain ⟨x10, e10, h⟩ := Sat_bind h
    refine r_cV (t := 12) [.int l2] [] (m_X11_isFact a0 l2 μ e10) ck_X11_isFact lk_X11_315 in_X11_isFact se_X11_isFact (kd_of e10) ⟨rfl, by decide, by decide⟩ rfl rfl (Nat.le_of_ble_eq_true rfl) ⟨by decide, by decide⟩ ⟨Nat.zero_le _, Nat.zero_le _⟩ dX11_kept_10 ?_
    refine r_if_eq 23 dX11_kept_13 (by decide) (fun c13 => ?_) (fun c13 => ?_)
    · have h := Sat_pos c13 h
      refine r_bipush (v := -2) dX11_kept_23 (by decide) ?_
      exact r_ireturn rfl (by rw [← Sat_eq h]; exact ⟨rfl, rfl⟩) dX11_kept_25
    · have h := Sat_neg c13 h
      refine r_iload_n dX11_kept_16 3 rfl ?_
      obtain ⟨x17, e17, h⟩ := Sat_bind h
      refine r_cS [.int l3] [] (m_X11_isDay l3 μ e17) ck_X11_isDay lk_X11_363 st_X11_isDay rfl rfl (Nat.le_of_ble_eq_true rfl) ⟨by decide, by decide⟩ ⟨Nat.zero_le _, Nat.zero_le _⟩ dX11_kept_17 ?_
      refine r_if_ne 26 dX11_kept_20 (by decide) (fun c20 => ?_) (fun c20 => ?_)
      · have h := Sat_neg c20 h
        refine r_iconst (v := -1) dX11_kept_26 (by decide) ?_
        refine r_istore (lv' := [(4, .int (-1 : Int32)), (0, .ref a0), (1, .int l1), (2, .int l2), (3, .int l3)]) dX11_kept_27 (by decide) rfl ?_
        refine r_iconst (v := 0) dX11_kept_29 (by decide) ?_
        refine r_istore (lv' := [(5, .int (0 : Int32)), (4, .int (-1 : Int32)), (0, .ref a0), (1, .int l1), (2, .int l2), (3, .int l3)]) dX11_kept_30 (by decide) rfl ?_
        refine r_sub (lv' := [(0, .ref a0), (1, .int l1), (2, .int l2), (3, .int l3), (4, .int (-1 : Int32)), (5, .int (0 : Int32))]) [2, 3, 4, 5, 1, 0] rfl ?_
        refine whl_K (s0 := (((-1 : Int32), (0 : Int32), μ) : Int32 × Int32 × Mm)) (RR := fun (s32 : Int32 × Int32 × Mm) => Rn_X11_kept G (fun v μ' => v = some (.int r.1) ∧ μ' = r.2) 32 [(0, .ref a0), (1, .int l1), (2, .int l2), (3, .int l3), (4, .int s32.1), (5, .int s32.2.1)] [] s32.2.2) ?_ (Sat_bindK h)
        intro s32 K32 hI32 hX32 h
        have J107 : ∀ (l4_107 : Int32) (l5_107 : Int32) (μ_107 : Mm), Sat (f_X11_kept_J107 a0 l1 l2 l3 l4_107 l5_107 μ_107) K32 → Rn_X11_kept G (fun v μ' => v = some (.int r.1) ∧ μ' = r.2) 107 [(0, .ref a0), (1, .int l1), (2, .int l2), (3, .int l3), (4, .int l4_107), (5, .int l5_107)] [] μ_107 := by
          intro l4_107 l5_107 μ_107 h
          obtain ⟨v107, e107, h⟩ := Sat_bind h
          refine r_iinc (j := 5) (v := v107) (lv' := [(5, .int v107), (0, .ref a0), (1, .int l1), (2, .int l2), (3, .int l3), (4, .int l4_107)]) dX11_kept_107 rfl (iinc_v e107 (by decide)) (by decide) rfl ?_
          refine r_goto 32 dX11_kept_110 (by decide) ?_
          exact r_sub [1, 2, 3, 4, 5, 0] rfl (hI32 _ (Sat_some h))
        have J67 : ∀ (l4_67 : Int32) (l5_67 : Int32) (μ_67 : Mm), Sat (f_X11_kept_J67 a0 l1 l2 l3 l4_67 l5_67 μ_67) K32 → Rn_X11_kept G (fun v μ' => v = some (.int r.1) ∧ μ' = r.2) 67 [(0, .ref a0), (1, .int l1), (2, .int l2), (3, .int l3), (4, .int l4_67), (5, .int l5_67)] [] μ_67 := by
          intro l4_67 l5_67 μ_67 h
          refine r_aload_n dX11_kept_67 0 rfl ?_
          refine r_iload dX11_kept_68 5 rfl ?_
          obtain ⟨μ70, e70, h⟩ := Sat_bind h
          refine r_putI fk_X11_337 rfl rfl e70 dX11_kept_70 ?_
          refine r_aload_n dX11_kept_73 0 rfl ?_
          refine r_aload_n dX11_kept_74 0 rfl ?_
          obtain ⟨x75, e75, h⟩ := Sat_bind h
          refine r_getP fk_X11_73 rfl e75 dX11_kept_75 ?_
          refine r_aload_n dX11_kept_78 0 rfl ?_
          obtain ⟨x79, e79, h⟩ := Sat_bind h
          refine r_getI fk_X11_241 rfl e79 dX11_kept_79 ?_
          obtain ⟨x82, e82, h⟩ := Sat_bind h
          refine r_laload e82 dX11_kept_82 ?_
          refine r_iload_n dX11_kept_83 3 rfl ?_
          refine r_bipush (v := 7) dX11_kept_84 (by decide) ?_
          refine r_iconst (v := 1) dX11_kept_86 (by decide) ?_
          obtain ⟨x87, e87, h⟩ := Sat_bind h
          refine r_cV (t := 12) [.long x82, .int l3, .int (7 : Int32), .int (1 : Int32)] [] (m_X11_live a0 x82 l3 (7 : Int32) (1 : Int32) μ70 e87) ck_X11_live lk_X11_369 in_X11_live se_X11_live (kd_of e87) ⟨rfl, by decide, by decide⟩ rfl rfl (Nat.le_of_ble_eq_true rfl) ⟨by decide, by decide⟩ ⟨Nat.zero_le _, Nat.zero_le _⟩ dX11_kept_87 ?_
          refine r_aload_n dX11_kept_90 0 rfl ?_
          obtain ⟨x91, e91, h⟩ := Sat_bind h
          refine r_getP fk_X11_76 rfl e91 dX11_kept_91 ?_
          refine r_iload_n dX11_kept_94 1 rfl ?_
          obtain ⟨x95, e95, h⟩ := Sat_bind h
          refine r_iaload e95 dX11_kept_95 ?_
          refine r_iload_n dX11_kept_96 2 rfl ?_
          refine r_ishr dX11_kept_97 ?_
          refine r_iconst (v := 1) dX11_kept_98 (by decide) ?_
          refine r_iand dX11_kept_99 ?_
          refine r_if_ne 107 dX11_kept_100 (by decide) (fun c100 => ?_) (fun c100 => ?_)
          · have h := Sat_neg c100 h
            exact r_sub [0, 1, 2, 3, 4, 5] rfl (J107 l4_67 l5_67 x87 h)
          · have h := Sat_pos c100 h
            refine r_iload dX11_kept_103 5 rfl ?_
            refine r_istore (lv' := [(4, .int l5_67), (0, .ref a0), (1, .int l1), (2, .int l2), (3, .int l3), (5, .int l5_67)]) dX11_kept_105 (by decide) rfl ?_
            exact r_sub [1, 2, 3, 4, 0, 5] rfl (J107 l5_67 l5_67 x87 h)
        refine r_iload dX11_kept_32 5 rfl ?_
        refine r_iconst (v := 1) dX11_kept_34 (by decide) ?_
        refine r_aload_n dX11_kept_35 0 rfl ?_
        obtain ⟨x36, e36, h⟩ := Sat_bind h
        refine r_getP fk_X11_17 rfl e36 dX11_kept_36 ?_
        refine r_iconst (v := 0) dX11_kept_39 (by decide) ?_
        obtain ⟨x40, e40, h⟩ := Sat_bind h
        refine r_iaload e40 dX11_kept_40 ?_
        refine r_ishl dX11_kept_41 ?_
        refine r_icmp_ge 113 dX11_kept_42 (by decide) (fun c42 => ?_) (fun c42 => ?_)
        · have h := Sat_pos c42 h
          have h := hX32 _ (Sat_some h)
          exact r_sub [0, 4] rfl (J113 a0 s32.1 s32.2.2 h)
        · have h := Sat_neg c42 h
          refine r_iload dX11_kept_45 4 rfl ?_
          refine r_iconst (v := -1) dX11_kept_47 (by decide) ?_
          refine r_icmp_eq 67 dX11_kept_48 (by decide) (fun c48 => ?_) (fun c48 => ?_)
          · have h := Sat_pos c48 h
            exact r_sub [0, 1, 2, 3, 4, 5] rfl (J67 s32.1 s32.2.1 s32.2.2 h)
          · have h := Sat_neg c48 h
            refine r_iload dX11_kept_51 5 rfl ?_
            obtain ⟨x53, e53, h⟩ := Sat_bind h
            refine r_cS [.int s32.2.1] [] (m_X11_bits s32.2.1 s32.2.2 e53) ck_X11_bits lk_X11_407 st_X11_bits rfl rfl (Nat.le_of_ble_eq_true rfl) ⟨by decide, by decide⟩ ⟨Nat.zero_le _, Nat.zero_le _⟩ dX11_kept_53 ?_
            refine r_iload dX11_kept_56 4 rfl ?_
            obtain ⟨x58, e58, h⟩ := Sat_bind h
            refine r_cS [.int s32.1] [.int x53] (m_X11_bits s32.1 s32.2.2 e58) ck_X11_bits lk_X11_407 st_X11_bits rfl rfl (Nat.le_of_ble_eq_true rfl) ⟨by decide, by decide⟩ ⟨Nat.zero_le _, Nat.zero_le _⟩ dX11_kept_58 ?_
            refine r_icmp_lt 67 dX11_kept_61 (by decide) (fun c61 => ?_) (fun c61 => ?_)
            · have h := Sat_pos c61 h
              exact r_sub [0, 1, 2, 3, 4, 5] rfl (J67 s32.1 s32.2.1 s32.2.2 h)
            · have h := Sat_neg c61 h
              refine r_goto 107 dX11_kept_64 (by decide) ?_
              exact r_sub [0, 1, 2, 3, 4, 5] rfl (J107 s32.1 s32.2.1 s32.2.2 h)
      · have h := Sat_pos c20 h
        refine r_bipush (v := -2) dX11_kept_23 (by decide) ?_
        exact r_ireturn rfl (by rw [← Sat_eq h]; exact ⟨rfl, rfl⟩) dX11_kept_25
theorem dX11_knowers_0 : decode cX11_knowers 0 = .ok (.aload_n 0, 1) := by decide +kernel
theorem dX11_knowers_1 : decode cX11_knowers 1 = .ok (.iload_n 1, 1) := by decide +kernel
theorem dX11_knowers_2 : decode cX11_knowers 2 = .ok (.invokevirtual 315, 3) := by decide +kernel
theorem dX11_knowers_5 : decode cX11_knowers 5 = .ok (.ifCond .eq 27, 3) := by decide +kernel
theorem dX11_knowers_8 : decode cX11_knowers 8 = .ok (.iload_n 2, 1) := by decide +kernel
theorem dX11_knowers_9 : decode cX11_knowers 9 = .ok (.invokestatic 363, 3) := by decide +kernel
theorem dX11_knowers_12 : decode cX11_knowers 12 = .ok (.ifCond .eq 20, 3) := by decide +kernel
theorem dX11_knowers_15 : decode cX11_knowers 15 = .ok (.iload_n 3, 1) := by decide +kernel
theorem dX11_knowers_16 : decode cX11_knowers 16 = .ok (.invokestatic 389, 3) := by decide +kernel
theorem dX11_knowers_19 : decode cX11_knowers 19 = .ok (.ifCond .eq 13, 3) := by decide +kernel
theorem dX11_knowers_22 : decode cX11_knowers 22 = .ok (.iload 4, 2) := by decide +kernel
theorem dX11_knowers_24 : decode cX11_knowers 24 = .ok (.iconst 0, 1) := by decide +kernel
theorem dX11_knowers_25 : decode cX11_knowers 25 = .ok (.iconst 1, 1) := by decide +kernel
theorem dX11_knowers_26 : decode cX11_knowers 26 = .ok (.invokestatic 217, 3) := by decide +kernel
theorem dX11_knowers_29 : decode cX11_knowers 29 = .ok (.ifCond .ne 6, 3) := by decide +kernel
theorem dX11_knowers_32 : decode cX11_knowers 32 = .ok (.bipush (-2), 2) := by decide +kernel
theorem dX11_knowers_34 : decode cX11_knowers 34 = .ok (.ireturn, 1) := by decide +kernel
theorem dX11_knowers_35 : decode cX11_knowers 35 = .ok (.aload_n 0, 1) := by decide +kernel
theorem dX11_knowers_36 : decode cX11_knowers 36 = .ok (.iload_n 3, 1) := by decide +kernel
theorem dX11_knowers_37 : decode cX11_knowers 37 = .ok (.invokevirtual 392, 3) := by decide +kernel
theorem dX11_knowers_40 : decode cX11_knowers 40 = .ok (.pop, 1) := by decide +kernel
theorem dX11_knowers_41 : decode cX11_knowers 41 = .ok (.iconst 0, 1) := by decide +kernel
theorem dX11_knowers_42 : decode cX11_knowers 42 = .ok (.istore 5, 2) := by decide +kernel
theorem dX11_knowers_44 : decode cX11_knowers 44 = .ok (.iconst 1, 1) := by decide +kernel
theorem dX11_knowers_45 : decode cX11_knowers 45 = .ok (.aload_n 0, 1) := by decide +kernel
theorem dX11_knowers_46 : decode cX11_knowers 46 = .ok (.getfield 17, 3) := by decide +kernel
theorem dX11_knowers_49 : decode cX11_knowers 49 = .ok (.iconst 0, 1) := by decide +kernel
theorem dX11_knowers_50 : decode cX11_knowers 50 = .ok (.iaload, 1) := by decide +kernel
theorem dX11_knowers_51 : decode cX11_knowers 51 = .ok (.ishl, 1) := by decide +kernel
theorem dX11_knowers_52 : decode cX11_knowers 52 = .ok (.iconst 1, 1) := by decide +kernel
theorem dX11_knowers_53 : decode cX11_knowers 53 = .ok (.isub, 1) := by decide +kernel
theorem dX11_knowers_54 : decode cX11_knowers 54 = .ok (.istore 6, 2) := by decide +kernel
theorem dX11_knowers_56 : decode cX11_knowers 56 = .ok (.iconst 0, 1) := by decide +kernel
theorem dX11_knowers_57 : decode cX11_knowers 57 = .ok (.istore 7, 2) := by decide +kernel
theorem dX11_knowers_59 : decode cX11_knowers 59 = .ok (.iconst 0, 1) := by decide +kernel
theorem dX11_knowers_60 : decode cX11_knowers 60 = .ok (.istore 8, 2) := by decide +kernel
theorem dX11_knowers_62 : decode cX11_knowers 62 = .ok (.iload 8, 2) := by decide +kernel
theorem dX11_knowers_64 : decode cX11_knowers 64 = .ok (.aload_n 0, 1) := by decide +kernel
theorem dX11_knowers_65 : decode cX11_knowers 65 = .ok (.getfield 234, 3) := by decide +kernel
theorem dX11_knowers_68 : decode cX11_knowers 68 = .ok (.if_icmp .ge 95, 3) := by decide +kernel
theorem dX11_knowers_71 : decode cX11_knowers 71 = .ok (.aload_n 0, 1) := by decide +kernel
theorem dX11_knowers_72 : decode cX11_knowers 72 = .ok (.iload 8, 2) := by decide +kernel
theorem dX11_knowers_74 : decode cX11_knowers 74 = .ok (.invokevirtual 395, 3) := by decide +kernel
theorem dX11_knowers_77 : decode cX11_knowers 77 = .ok (.ifCond .ne 6, 3) := by decide +kernel
theorem dX11_knowers_80 : decode cX11_knowers 80 = .ok (.goto 77, 3) := by decide +kernel
theorem dX11_knowers_83 : decode cX11_knowers 83 = .ok (.iconst 1, 1) := by decide +kernel
theorem dX11_knowers_84 : decode cX11_knowers 84 = .ok (.istore 5, 2) := by decide +kernel
theorem dX11_knowers_86 : decode cX11_knowers 86 = .ok (.aload_n 0, 1) := by decide +kernel
theorem dX11_knowers_87 : decode cX11_knowers 87 = .ok (.aload_n 0, 1) := by decide +kernel
theorem dX11_knowers_88 : decode cX11_knowers 88 = .ok (.getfield 73, 3) := by decide +kernel
theorem dX11_knowers_91 : decode cX11_knowers 91 = .ok (.iload 8, 2) := by decide +kernel
theorem dX11_knowers_93 : decode cX11_knowers 93 = .ok (.laload, 1) := by decide +kernel
theorem dX11_knowers_94 : decode cX11_knowers 94 = .ok (.iload_n 2, 1) := by decide +kernel
theorem dX11_knowers_95 : decode cX11_knowers 95 = .ok (.bipush 7, 2) := by decide +kernel
theorem dX11_knowers_97 : decode cX11_knowers 97 = .ok (.iconst 1, 1) := by decide +kernel
theorem dX11_knowers_98 : decode cX11_knowers 98 = .ok (.invokevirtual 369, 3) := by decide +kernel
theorem dX11_knowers_101 : decode cX11_knowers 101 = .ok (.iconst 0, 1) := by decide +kernel
theorem dX11_knowers_102 : decode cX11_knowers 102 = .ok (.istore 9, 2) := by decide +kernel
theorem dX11_knowers_104 : decode cX11_knowers 104 = .ok (.iconst 0, 1) := by decide +kernel
theorem dX11_knowers_105 : decode cX11_knowers 105 = .ok (.istore 10, 2) := by decide +kernel
theorem dX11_knowers_107 : decode cX11_knowers 107 = .ok (.iload 10, 2) := by decide +kernel
theorem dX11_knowers_109 : decode cX11_knowers 109 = .ok (.aload_n 0, 1) := by decide +kernel
theorem dX11_knowers_110 : decode cX11_knowers 110 = .ok (.getfield 17, 3) := by decide +kernel
theorem dX11_knowers_113 : decode cX11_knowers 113 = .ok (.iconst 0, 1) := by decide +kernel
theorem dX11_knowers_114 : decode cX11_knowers 114 = .ok (.iaload, 1) := by decide +kernel
theorem dX11_knowers_115 : decode cX11_knowers 115 = .ok (.if_icmp .ge 28, 3) := by decide +kernel
theorem dX11_knowers_118 : decode cX11_knowers 118 = .ok (.iload 9, 2) := by decide +kernel
theorem dX11_knowers_120 : decode cX11_knowers 120 = .ok (.aload_n 0, 1) := by decide +kernel
theorem dX11_knowers_121 : decode cX11_knowers 121 = .ok (.getfield 76, 3) := by decide +kernel
theorem dX11_knowers_124 : decode cX11_knowers 124 = .ok (.iload 10, 2) := by decide +kernel
theorem dX11_knowers_126 : decode cX11_knowers 126 = .ok (.iaload, 1) := by decide +kernel
theorem dX11_knowers_127 : decode cX11_knowers 127 = .ok (.iload_n 1, 1) := by decide +kernel
theorem dX11_knowers_128 : decode cX11_knowers 128 = .ok (.ishr, 1) := by decide +kernel
theorem dX11_knowers_129 : decode cX11_knowers 129 = .ok (.iconst 1, 1) := by decide +kernel
theorem dX11_knowers_130 : decode cX11_knowers 130 = .ok (.iand, 1) := by decide +kernel
theorem dX11_knowers_131 : decode cX11_knowers 131 = .ok (.iload 10, 2) := by decide +kernel
theorem dX11_knowers_133 : decode cX11_knowers 133 = .ok (.ishl, 1) := by decide +kernel
theorem dX11_knowers_134 : decode cX11_knowers 134 = .ok (.ior, 1) := by decide +kernel
theorem dX11_knowers_135 : decode cX11_knowers 135 = .ok (.istore 9, 2) := by decide +kernel
theorem dX11_knowers_137 : decode cX11_knowers 137 = .ok (.iinc 10 1, 3) := by decide +kernel
theorem dX11_knowers_140 : decode cX11_knowers 140 = .ok (.goto (-33), 3) := by decide +kernel
theorem dX11_knowers_143 : decode cX11_knowers 143 = .ok (.iload 6, 2) := by decide +kernel
theorem dX11_knowers_145 : decode cX11_knowers 145 = .ok (.iload 9, 2) := by decide +kernel
theorem dX11_knowers_147 : decode cX11_knowers 147 = .ok (.iand, 1) := by decide +kernel
theorem dX11_knowers_148 : decode cX11_knowers 148 = .ok (.istore 6, 2) := by decide +kernel
theorem dX11_knowers_150 : decode cX11_knowers 150 = .ok (.iload 7, 2) := by decide +kernel
theorem dX11_knowers_152 : decode cX11_knowers 152 = .ok (.iload 9, 2) := by decide +kernel
theorem dX11_knowers_154 : decode cX11_knowers 154 = .ok (.ior, 1) := by decide +kernel
theorem dX11_knowers_155 : decode cX11_knowers 155 = .ok (.istore 7, 2) := by decide +kernel
theorem dX11_knowers_157 : decode cX11_knowers 157 = .ok (.iinc 8 1, 3) := by decide +kernel
theorem dX11_knowers_160 : decode cX11_knowers 160 = .ok (.goto (-98), 3) := by decide +kernel
theorem dX11_knowers_163 : decode cX11_knowers 163 = .ok (.iload 5, 2) := by decide +kernel
theorem dX11_knowers_165 : decode cX11_knowers 165 = .ok (.ifCond .ne 7, 3) := by decide +kernel
theorem dX11_knowers_168 : decode cX11_knowers 168 = .ok (.iconst 0, 1) := by decide +kernel
theorem dX11_knowers_169 : decode cX11_knowers 169 = .ok (.goto 15, 3) := by decide +kernel
theorem dX11_knowers_172 : decode cX11_knowers 172 = .ok (.iload 4, 2) := by decide +kernel
theorem dX11_knowers_174 : decode cX11_knowers 174 = .ok (.ifCond .ne 8, 3) := by decide +kernel
theorem dX11_knowers_177 : decode cX11_knowers 177 = .ok (.iload 6, 2) := by decide +kernel
theorem dX11_knowers_179 : decode cX11_knowers 179 = .ok (.goto 5, 3) := by decide +kernel
theorem dX11_knowers_182 : decode cX11_knowers 182 = .ok (.iload 7, 2) := by decide +kernel
theorem dX11_knowers_184 : decode cX11_knowers 184 = .ok (.ireturn, 1) := by decide +kernel
noncomputable def f_X11_knowers_J163 (l4 : Int32) (l5 : Int32) (l6 : Int32) (l7 : Int32) (μ : Mm) : Option (Int32 × Mm) :=
  if l5 = 0 then some ((0 : Int32), μ) else if l4 = 0 then some (l6, μ) else some (l7, μ)
noncomputable def f_X11_knowers_J157 (a0 : Nat) (l1 : Int32) (l2 : Int32) (l4 : Int32) (l5 : Int32) (l6 : Int32) (l7 : Int32) (l8 : Int32) (μ : Mm) : Option ((Int32 × Int32 × Int32 × Int32 × Mm) ⊕ (Int32 × Int32 × Int32 × Mm)) :=
  (some (l8 + (1 : Int32))).bind fun v157 => some (.inl (l5, l6, l7, v157, μ))
noncomputable def f_X11_knowers_J143 (a0 : Nat) (l1 : Int32) (l2 : Int32) (l4 : Int32) (l5 : Int32) (l6 : Int32) (l7 : Int32) (l8 : Int32) (l9 : Int32) (μ : Mm) : Option ((Int32 × Int32 × Int32 × Int32 × Mm) ⊕ (Int32 × Int32 × Int32 × Mm)) :=
  (some (l6 &&& l9)).bind fun v148 => (some (l7 ||| l9)).bind fun v155 => f_X11_knowers_J157 a0 l1 l2 l4 l5 v148 v155 l8 μ
noncomputable def f_X11_knowers_L107 (a0 : Nat) (l1 : Int32) (l2 : Int32) (l4 : Int32) (l5 : Int32) (l6 : Int32) (l7 : Int32) (l8 : Int32) (μ : Mm) (s107 : Int32 × Int32) : Option ((Int32 × Int32) ⊕ (Int32)) :=
  (gf_P 12 12 a0 μ).bind fun x110 => (ga_I x110 (0 : Int32) μ).bind fun x114 => if x114 ≤ s107.2 then some (.inr s107.1) else (gf_P 12 35 a0 μ).bind fun x121 => (ga_I x121 s107.2 μ).bind fun x126 => (some (s107.1 ||| (((x126 >>> (l1 &&& 31)) &&& (1 : Int32)) <<< (s107.2 &&& 31)))).bind fun v135 => (some (s107.2 + (1 : Int32))).bind fun v137 => some (.inl (v135, v137))
noncomputable def f_X11_knowers_L62 (a0 : Nat) (l1 : Int32) (l2 : Int32) (l4 : Int32) (s62 : Int32 × Int32 × Int32 × Int32 × Mm) : Option ((Int32 × Int32 × Int32 × Int32 × Mm) ⊕ (Int32 × Int32 × Int32 × Mm)) :=
  (gf_I 12 32 a0 s62.2.2.2.2).bind fun x65 => if x65 ≤ s62.2.2.2.1 then some (.inr (s62.1, s62.2.1, s62.2.2.1, s62.2.2.2.2)) else (f_X11_isFitting a0 s62.2.2.2.1 s62.2.2.2.2).bind fun x74 => if x74 = 0 then f_X11_knowers_J157 a0 l1 l2 l4 s62.1 s62.2.1 s62.2.2.1 s62.2.2.2.1 s62.2.2.2.2 else (gf_P 12 34 a0 s62.2.2.2.2).bind fun x88 => (ga_L x88 s62.2.2.2.1 s62.2.2.2.2).bind fun x93 => (f_X11_live a0 x93 l2 (7 : Int32) (1 : Int32) s62.2.2.2.2).bind fun x98 => (whl (f_X11_knowers_L107 a0 l1 l2 l4 (1 : Int32) s62.2.1 s62.2.2.1 s62.2.2.2.1 x98) ((0 : Int32), (0 : Int32))).bind (fun b107 => f_X11_knowers_J143 a0 l1 l2 l4 (1 : Int32) s62.2.1 s62.2.2.1 s62.2.2.2.1 b107 x98)
noncomputable def f_X11_knowers (a0 : Nat) (l1 : Int32) (l2 : Int32) (l3 : Int32) (l4 : Int32) (μ : Mm) : Option (Int32 × Mm) :=
  if (mm_K μ a0).1 = 12 then (f_X11_isFact a0 l1 μ).bind fun x2 => if x2 = 0 then some ((-2 : Int32), μ) else (f_X11_isDay l2 μ).bind fun x9 => if x9 = 0 then some ((-2 : Int32), μ) else (f_X11_isStep l3 μ).bind fun x16 => if x16 = 0 then some ((-2 : Int32), μ) else (f_X11_in l4 (0 : Int32) (1 : Int32) μ).bind fun x26 => if x26 = 0 then some ((-2 : Int32), μ) else (f_X11_findFits a0 l3 μ).bind fun x37 => (gf_P 12 12 a0 x37.2).bind fun x46 => (ga_I x46 (0 : Int32) x37.2).bind fun x50 => (some (((1 : Int32) <<< (x50 &&& 31)) - (1 : Int32))).bind fun v54 => (whl (f_X11_knowers_L62 a0 l1 l2 l4) ((0 : Int32), v54, (0 : Int32), (0 : Int32), x37.2)).bind (fun b62 => f_X11_knowers_J163 l4 b62.1 b62.2.1 b62.2.2.1 b62.2.2.2) else none
abbrev Rn_X11_knowers (G : Gv) (Q : Option Value → Mm → Prop) (pc : Nat) (lv : List (Nat × Value)) (st : List Value) (μ : Mm) : Prop := Rn G RX11 cX11_knowers 11 (some .int) "knowers" (rmd 5 0 0) (Zm G 0 0 Q) 0 0 pc lv st μ
set_option maxRecDepth 100000 in
set_option maxHeartbeats 4000000 in
theorem m_X11_knowers {G : Gv} (a0 : Nat) (l1 : Int32) (l2 : Int32) (l3 : Int32) (l4 : Int32) (μ : Mm) {r : (Int32 × Mm)} (hx : f_X11_knowers a0 l1 l2 l3 l4 μ = some r) : Mt G yX11_knowers cX11_knowers 11 (some .int) 5 0 0 [.ref a0, .int l1, .int l2, .int l3, .int l4] μ (fun v μ' => v = some (.int r.1) ∧ μ' = r.2) := by
  refine Mt.of (by decide) (Nat.le_of_ble_eq_true rfl) ?_
  show Rn_X11_knowers G (fun v μ' => v = some (.int r.1) ∧ μ' = r.2) 0 [(0, .ref a0), (1, .int l1), (2, .int l2), (3, .int l3), (4, .int l4)] [] μ
  obtain ⟨_, h⟩ := Sat_ifp (show Sat (f_X11_knowers a0 l1 l2 l3 l4 μ) (fun x => x = r) from ⟨_, hx, rfl⟩)
  have J163 : ∀ (l4_163 : Int32) (l5_163 : Int32) (l6_163 : Int32) (l7_163 : Int32) (μ_163 : Mm), Sat (f_X11_knowers_J163 l4_163 l5_163 l6_163 l7_163 μ_163) (fun x => x = r) → Rn_X11_knowers G (fun v μ' => v = some (.int r.1) ∧ μ' = r.2) 163 [(4, .int l4_163), (5, .int l5_163), (6, .int l6_163), (7, .int l7_163)] [] μ_163 := by
    intro l4_163 l5_163 l6_163 l7_163 μ_163 h
    refine r_iload dX11_knowers_163 1 rfl ?_
    refine r_if_ne 172 dX11_knowers_165 (by decide) (fun c165 => ?_) (fun c165 => ?_)
    · have h := Sat_neg c165 h
      refine r_iload dX11_knowers_172 0 rfl ?_
      refine r_if_ne 182 dX11_knowers_174 (by decide) (fun c174 => ?_) (fun c174 => ?_)
      · have h := Sat_neg c174 h
        refine r_iload dX11_knowers_182 3 rfl ?_
        exact r_ireturn rfl (by rw [← Sat_eq h]; exact ⟨rfl, rfl⟩) dX11_knowers_184
      · have h := Sat_pos c174 h
        refine r_iload dX11_knowers_177 2 rfl ?_
        refine r_goto 184 dX11_knowers_179 (by decide) ?_
        exact r_ireturn rfl (by rw [← Sat_eq h]; exact ⟨rfl, rfl⟩) dX11_knowers_184
    · have h := Sat_pos c165 h
      refine r_iconst (v := 0) dX11_knowers_168 (by decide) ?_
      refine r_goto 184 dX11_knowers_169 (by decide) ?_
      exact r_ireturn rfl (by rw [← Sat_eq h]; exact ⟨rfl, rfl⟩) dX11_knowers_184
  refine r_aload_n dX11_knowers_0 0 rfl ?_
  refine r_iload_n dX11_knowers_1 1 rfl ?_
  obtain ⟨x2, e2, h⟩ := Sat_bind h
  refine r_cV (t := 12) [.int l1] [] (m_X11_isFact a0 l1 μ e2) ck_X11_isFact lk_X11_315 in_X11_isFact se_X11_isFact (kd_of e2) ⟨rfl, by decide, by decide⟩ rfl rfl (Nat.le_of_ble_eq_true rfl) ⟨by decide, by decide⟩ ⟨Nat.zero_le _, Nat.zero_le _⟩ dX11_knowers_2 ?_
  refine r_if_eq 32 dX11_knowers_5 (by decide) (fun c5 => ?_) (fun c5 => ?_)
  · have h := Sat_pos c5 h
    refine r_bipush (v := -2) dX11_knowers_32 (by decide) ?_
    exact r_ireturn rfl (by rw [← Sat_eq h]; exact ⟨rfl, rfl⟩) dX11_knowers_34
  · have h := Sat_neg c5 h
    refine r_iload_n dX11_knowers_8 2 rfl ?_
    obtain ⟨x9, e9, h⟩ := Sat_bind h
    refine r_cS [.int l2] [] (m_X11_isDay l2 μ e9) ck_X11_isDay lk_X11_363 st_X11_isDay rfl rfl (Nat.le_of_ble_eq_true rfl) ⟨by decide, by decide⟩ ⟨Nat.zero_le _, Nat.zero_le _⟩ dX11_knowers_9 ?_
    refine r_if_eq 32 dX11_knowers_12 (by decide) (fun c12 => ?_) (fun c12 => ?_)
    · have h := Sat_pos c12 h
      refine r_bipush (v := -2) dX11_knowers_32 (by decide) ?_
      exact r_ireturn rfl (by rw [← Sat_eq h]; exact ⟨rfl, rfl⟩) dX11_knowers_34
    · have h := Sat_neg c12 h
      refine r_iload_n dX11_knowers_15 3 rfl ?_
      obtain ⟨x16, e16, h⟩ := Sat_bind h
      refine r_cS [.int l3] [] (m_X11_isStep l3 μ e16) ck_X11_isStep lk_X11_389 st_X11_isStep rfl rfl (Nat.le_of_ble_eq_true rfl) ⟨by decide, by decide⟩ ⟨Nat.zero_le _, Nat.zero_le _⟩ dX11_knowers_16 ?_
      refine r_if_eq 32 dX11_knowers_19 (by decide) (fun c19 => ?_) (fun c19 => ?_)
      · have h := Sat_pos c19 h
        refine r_bipush (v := -2) dX11_knowers_32 (by decide) ?_
        exact r_ireturn rfl (by rw [← Sat_eq h]; exact ⟨rfl, rfl⟩) dX11_knowers_34
      · have h := Sat_neg c19 h
        refine r_iload dX11_knowers_22 4 rfl ?_
        refine r_iconst (v := 0) dX11_knowers_24 (by decide) ?_
        refine r_iconst (v := 1) dX11_knowers_25 (by decide) ?_
        obtain ⟨x26, e26, h⟩ := Sat_bind h
        refine r_cS [.int l4, .int (0 : Int32), .int (1 : Int32)] [] (m_X11_in l4 (0 : Int32) (1 : Int32) μ e26) ck_X11_in lk_X11_217 st_X11_in rfl rfl (Nat.le_of_ble_eq_true rfl) ⟨by decide, by decide⟩ ⟨Nat.zero_le _, Nat.zero_le _⟩ dX11_knowers_26 ?_
        refine r_if_ne 35 dX11_knowers_29 (by decide) (fun c29 => ?_) (fun c29 => ?_)
        · have h := Sat_neg c29 h
          refine r_aload_n dX11_knowers_35 0 rfl ?_
          refine r_iload_n dX11_knowers_36 3 rfl ?_
          obtain ⟨x37, e37, h⟩ := Sat_bind h
          refine r_cV (t := 12) [.int l3] [] (m_X11_findFits a0 l3 μ e37) ck_X11_findFits lk_X11_392 in_X11_findFits se_X11_findFits (kd_of e37) ⟨rfl, by decide, by decide⟩ rfl rfl (Nat.le_of_ble_eq_true rfl) ⟨by decide, by decide⟩ ⟨Nat.zero_le _, Nat.zero_le _⟩ dX11_knowers_37 ?_
          refine r_pop dX11_knowers_40 rfl ?_
          refine r_iconst (v := 0) dX11_knowers_41 (by decide) ?_
          refine r_istore (lv' := [(5, .int (0 : Int32)), (0, .ref a0), (1, .int l1), (2, .int l2), (3, .int l3), (4, .int l4)]) dX11_knowers_42 (by decide) rfl ?_
          refine r_iconst (v := 1) dX11_knowers_44 (by decide) ?_
          refine r_aload_n dX11_knowers_45 1 rfl ?_
          obtain ⟨x46, e46, h⟩ := Sat_bind h
          refine r_getP fk_X11_17 rfl e46 dX11_knowers_46 ?_
          refine r_iconst (v := 0) dX11_knowers_49 (by decide) ?_
          obtain ⟨x50, e50, h⟩ := Sat_bind h
          refine r_iaload e50 dX11_knowers_50 ?_
          refine r_ishl dX11_knowers_51 ?_
          refine r_iconst (v := 1) dX11_knowers_52 (by decide) ?_
          refine r_isub dX11_knowers_53 ?_
          obtain ⟨v54, e54, h⟩ := Sat_bind h
          refine r_topi (Option.some.inj e54) ?_
          refine r_istore (lv' := [(6, .int v54), (5, .int (0 : Int32)), (0, .ref a0), (1, .int l1), (2, .int l2), (3, .int l3), (4, .int l4)]) dX11_knowers_54 (by decide) rfl ?_
          refine r_iconst (v := 0) dX11_knowers_56 (by decide) ?_
          refine r_istore (lv' := [(7, .int (0 : Int32)), (6, .int v54), (5, .int (0 : Int32)), (0, .ref a0), (1, .int l1), (2, .int l2), (3, .int l3), (4, .int l4)]) dX11_knowers_57 (by decide) rfl ?_
          refine r_iconst (v := 0) dX11_knowers_59 (by decide) ?_
          refine r_istore (lv' := [(8, .int (0 : Int32)), (7, .int (0 : Int32)), (6, .int v54), (5, .int (0 : Int32)), (0, .ref a0), (1, .int l1), (2, .int l2), (3, .int l3), (4, .int l4)]) dX11_knowers_60 (by decide) rfl ?_
          refine r_sub (lv' := [(0, .ref a0), (1, .int l1), (2, .int l2), (4, .int l4), (5, .int (0 : Int32)), (6, .int v54), (7, .int (0 : Int32)), (8, .int (0 : Int32))]) [4, 5, 6, 8, 3, 2, 1, 0] rfl ?_
          refine whl_K (s0 := (((0 : Int32), v54, (0 : Int32), (0 : Int32), x37.2) : Int32 × Int32 × Int32 × Int32 × Mm)) (RR := fun (s62 : Int32 × Int32 × Int32 × Int32 × Mm) => Rn_X11_knowers G (fun v μ' => v = some (.int r.1) ∧ μ' = r.2) 62 [(0, .ref a0), (1, .int l1), (2, .int l2), (4, .int l4), (5, .int s62.1), (6, .int s62.2.1), (7, .int s62.2.2.1), (8, .int s62.2.2.2.1)] [] s62.2.2.2.2) ?_ (Sat_bindK h)
          intro s62 K62 hI62 hX62 h
          have J157 : ∀ (l5_157 : Int32) (l6_157 : Int32) (l7_157 : Int32) (l8_157 : Int32) (μ_157 : Mm), Sat (f_X11_knowers_J157 a0 l1 l2 l4 l5_157 l6_157 l7_157 l8_157 μ_157) K62 → Rn_X11_knowers G (fun v μ' => v = some (.int r.1) ∧ μ' = r.2) 157 [(0, .ref a0), (1, .int l1), (2, .int l2), (4, .int l4), (5, .int l5_157), (6, .int l6_157), (7, .int l7_157), (8, .int l8_157)] [] μ_157 := by
            intro l5_157 l6_157 l7_157 l8_157 μ_157 h
            obtain ⟨v157, e157, h⟩ := Sat_bind h
            refine r_iinc (j := 7) (v := v157) (lv' := [(8, .int v157), (0, .ref a0), (1, .int l1), (2, .int l2), (4, .int l4), (5, .int l5_157), (6, .int l6_157), (7, .int l7_157)]) dX11_knowers_157 rfl (iinc_v e157 (by decide)) (by decide) rfl ?_
            refine r_goto 62 dX11_knowers_160 (by decide) ?_
            exact r_sub [1, 2, 3, 4, 5, 6, 7, 0] rfl (hI62 _ (Sat_some h))
          have J143 : ∀ (l5_143 : Int32) (l6_143 : Int32) (l7_143 : Int32) (l8_143 : Int32) (l9_143 : Int32) (μ_143 : Mm), Sat (f_X11_knowers_J143 a0 l1 l2 l4 l5_143 l6_143 l7_143 l8_143 l9_143 μ_143) K62 → Rn_X11_knowers G (fun v μ' => v = some (.int r.1) ∧ μ' = r.2) 143 [(0, .ref a0), (1, .int l1), (2, .int l2), (4, .int l4), (5, .int l5_143), (6, .int l6_143), (7, .int l7_143), (8, .int l8_143), (9, .int l9_143)] [] μ_143 := by
            intro l5_143 l6_143 l7_143 l8_143 l9_143 μ_143 h
            refine r_iload dX11_knowers_143 5 rfl ?_
            refine r_iload dX11_knowers_145 8 rfl ?_
            refine r_iand dX11_knowers_147 ?_
            obtain ⟨v148, e148, h⟩ := Sat_bind h
            refine r_topi (Option.some.inj e148) ?_
            refine r_istore (lv' := [(6, .int v148), (0, .ref a0), (1, .int l1), (2, .int l2), (4, .int l4), (5, .int l5_143), (7, .int l7_143), (8, .int l8_143), (9, .int l9_143)]) dX11_knowers_148 (by decide) rfl ?_
            refine r_iload dX11_knowers_150 6 rfl ?_
            refine r_iload dX11_knowers_152 8 rfl ?_
            refine r_ior dX11_knowers_154 ?_
            obtain ⟨v155, e155, h⟩ := Sat_bind h
            refine r_topi (Option.some.inj e155) ?_
            refine r_istore (lv' := [(7, .int v155), (6, .int v148), (0, .ref a0), (1, .int l1), (2, .int l2), (4, .int l4), (5, .int l5_143), (8, .int l8_143), (9, .int l9_143)]) dX11_knowers_155 (by decide) rfl ?_
            exact r_sub [2, 3, 4, 5, 6, 1, 0, 7] rfl (J157 l5_143 v148 v155 l8_143 μ_143 h)
          refine r_iload dX11_knowers_62 7 rfl ?_
          refine r_aload_n dX11_knowers_64 0 rfl ?_
          obtain ⟨x65, e65, h⟩ := Sat_bind h
          refine r_getI fk_X11_234 rfl e65 dX11_knowers_65 ?_
          refine r_icmp_ge 163 dX11_knowers_68 (by decide) (fun c68 => ?_) (fun c68 => ?_)
          · have h := Sat_pos c68 h
            have h := hX62 _ (Sat_some h)
            exact r_sub [3, 4, 5, 6] rfl (J163 l4 s62.1 s62.2.1 s62.2.2.1 s62.2.2.2.2 h)
          · have h := Sat_neg c68 h
            refine r_aload_n dX11_knowers_71 0 rfl ?_
            refine r_iload dX11_knowers_72 7 rfl ?_
            obtain ⟨x74, e74, h⟩ := Sat_bind h
            refine r_cV (t := 12) [.int s62.2.2.2.1] [] (m_X11_isFitting a0 s62.2.2.2.1 s62.2.2.2.2 e74) ck_X11_isFitting lk_X11_395 in_X11_isFitting se_X11_isFitting (kd_of e74) ⟨rfl, by decide, by decide⟩ rfl rfl (Nat.le_of_ble_eq_true rfl) ⟨by decide, by decide⟩ ⟨Nat.zero_le _, Nat.zero_le _⟩ dX11_knowers_74 ?_
            refine r_if_ne 83 dX11_knowers_77 (by decide) (fun c77 => ?_) (fun c77 => ?_)
            · have h := Sat_neg c77 h
              refine r_iconst (v := 1) dX11_knowers_83 (by decide) ?_
              refine r_istore (lv' := [(5, .int (1 : Int32)), (0, .ref a0), (1, .int l1), (2, .int l2), (4, .int l4), (6, .int s62.2.1), (7, .int s62.2.2.1), (8, .int s62.2.2.2.1)]) dX11_knowers_84 (by decide) rfl ?_
              refine r_aload_n dX11_knowers_86 1 rfl ?_
              refine r_aload_n dX11_knowers_87 1 rfl ?_
              obtain ⟨x88, e88, h⟩ := Sat_bind h
              refine r_getP fk_X11_73 rfl e88 dX11_knowers_88 ?_
              refine r_iload dX11_knowers_91 7 rfl ?_
              obtain ⟨x93, e93, h⟩ := Sat_bind h
              refine r_laload e93 dX11_knowers_93 ?_
              refine r_iload_n dX11_knowers_94 3 rfl ?_
              refine r_bipush (v := 7) dX11_knowers_95 (by decide) ?_
              refine r_iconst (v := 1) dX11_knowers_97 (by decide) ?_
              obtain ⟨x98, e98, h⟩ := Sat_bind h
              refine r_cV (t := 12) [.long x93, .int l2, .int (7 : Int32), .int (1 : Int32)] [] (m_X11_live a0 x93 l2 (7 : Int32) (1 : Int32) s62.2.2.2.2 e98) ck_X11_live lk_X11_369 in_X11_live se_X11_live (kd_of e98) ⟨rfl, by decide, by decide⟩ rfl rfl (Nat.le_of_ble_eq_true rfl) ⟨by decide, by decide⟩ ⟨Nat.zero_le _, Nat.zero_le _⟩ dX11_knowers_98 ?_
              refine r_iconst (v := 0) dX11_knowers_101 (by decide) ?_
              refine r_istore (lv' := [(9, .int (0 : Int32)), (5, .int (1 : Int32)), (0, .ref a0), (1, .int l1), (2, .int l2), (4, .int l4), (6, .int s62.2.1), (7, .int s62.2.2.1), (8, .int s62.2.2.2.1)]) dX11_knowers_102 (by decide) rfl ?_
              refine r_iconst (v := 0) dX11_knowers_104 (by decide) ?_
              refine r_istore (lv' := [(10, .int (0 : Int32)), (9, .int (0 : Int32)), (5, .int (1 : Int32)), (0, .ref a0), (1, .int l1), (2, .int l2), (4, .int l4), (6, .int s62.2.1), (7, .int s62.2.2.1), (8, .int s62.2.2.2.1)]) dX11_knowers_105 (by decide) rfl ?_
              refine r_sub (lv' := [(0, .ref a0), (1, .int l1), (2, .int l2), (4, .int l4), (5, .int (1 : Int32)), (6, .int s62.2.1), (7, .int s62.2.2.1), (8, .int s62.2.2.2.1), (9, .int (0 : Int32)), (10, .int (0 : Int32))]) [3, 4, 5, 6, 2, 7, 8, 9, 1, 0] rfl ?_
              refine whl_K (s0 := (((0 : Int32), (0 : Int32)) : Int32 × Int32)) (RR := fun (s107 : Int32 × Int32) => Rn_X11_knowers G (fun v μ' => v = some (.int r.1) ∧ μ' = r.2) 107 [(0, .ref a0), (1, .int l1), (2, .int l2), (4, .int l4), (5, .int (1 : Int32)), (6, .int s62.2.1), (7, .int s62.2.2.1), (8, .int s62.2.2.2.1), (9, .int s107.1), (10, .int s107.2)] [] x98) ?_ (Sat_bindK h)
              intro s107 K107 hI107 hX107 h
              refine r_iload dX11_knowers_107 9 rfl ?_
              refine r_aload_n dX11_knowers_109 0 rfl ?_
              obtain ⟨x110, e110, h⟩ := Sat_bind h
              refine r_getP fk_X11_17 rfl e110 dX11_knowers_110 ?_
              refine r_iconst (v := 0) dX11_knowers_113 (by decide) ?_
              obtain ⟨x114, e114, h⟩ := Sat_bind h
              refine r_iaload e114 dX11_knowers_114 ?_
              refine r_icmp_ge 143 dX11_knowers_115 (by decide) (fun c115 => ?_) (fun c115 => ?_)
              · have h := Sat_pos c115 h
                have h := hX107 _ (Sat_some h)
                exact r_sub [0, 1, 2, 3, 4, 5, 6, 7, 8] rfl (J143 (1 : Int32) s62.2.1 s62.2.2.1 s62.2.2.2.1 s107.1 x98 h)
              · have h := Sat_neg c115 h
                refine r_iload dX11_knowers_118 8 rfl ?_
                refine r_aload_n dX11_knowers_120 0 rfl ?_
                obtain ⟨x121, e121, h⟩ := Sat_bind h
                refine r_getP fk_X11_76 rfl e121 dX11_knowers_121 ?_
                refine r_iload dX11_knowers_124 9 rfl ?_
                obtain ⟨x126, e126, h⟩ := Sat_bind h
                refine r_iaload e126 dX11_knowers_126 ?_
                refine r_iload_n dX11_knowers_127 1 rfl ?_
                refine r_ishr dX11_knowers_128 ?_
                refine r_iconst (v := 1) dX11_knowers_129 (by decide) ?_
                refine r_iand dX11_knowers_130 ?_
                refine r_iload dX11_knowers_131 9 rfl ?_
                refine r_ishl dX11_knowers_133 ?_
                refine r_ior dX11_knowers_134 ?_
                obtain ⟨v135, e135, h⟩ := Sat_bind h
                refine r_topi (Option.some.inj e135) ?_
                refine r_istore (lv' := [(9, .int v135), (0, .ref a0), (1, .int l1), (2, .int l2), (4, .int l4), (5, .int (1 : Int32)), (6, .int s62.2.1), (7, .int s62.2.2.1), (8, .int s62.2.2.2.1), (10, .int s107.2)]) dX11_knowers_135 (by decide) rfl ?_
                obtain ⟨v137, e137, h⟩ := Sat_bind h
                refine r_iinc (j := 9) (v := v137) (lv' := [(10, .int v137), (9, .int v135), (0, .ref a0), (1, .int l1), (2, .int l2), (4, .int l4), (5, .int (1 : Int32)), (6, .int s62.2.1), (7, .int s62.2.2.1), (8, .int s62.2.2.2.1)]) dX11_knowers_137 rfl (iinc_v e137 (by decide)) (by decide) rfl ?_
                refine r_goto 107 dX11_knowers_140 (by decide) ?_
                exact r_sub [2, 3, 4, 5, 6, 7, 8, 9, 1, 0] rfl (hI107 _ (Sat_some h))
            · have h := Sat_pos c77 h
              refine r_goto 157 dX11_knowers_80 (by decide) ?_
              exact r_sub [0, 1, 2, 3, 4, 5, 6, 7] rfl (J157 s62.1 s62.2.1 s62.2.2.1 s62.2.2.2.1 s62.2.2.2.2 h)
        · have h := Sat_pos c29 h
          refine r_bipush (v := -2) dX11_knowers_32 (by decide) ?_
          exact r_ireturn rfl (by rw [← Sat_eq h]; exact ⟨rfl, rfl⟩) dX11_knowers_34
theorem dX11_knows_0 : decode cX11_knows 0 = .ok (.aload_n 0, 1) := by decide +kernel
theorem dX11_knows_1 : decode cX11_knows 1 = .ok (.iload_n 1, 1) := by decide +kernel
theorem dX11_knows_2 : decode cX11_knows 2 = .ok (.invokevirtual 309, 3) := by decide +kernel
theorem dX11_knows_5 : decode cX11_knows 5 = .ok (.ifCond .eq 17, 3) := by decide +kernel
theorem dX11_knows_8 : decode cX11_knows 8 = .ok (.iload_n 2, 1) := by decide +kernel
theorem dX11_knows_9 : decode cX11_knows 9 = .ok (.invokestatic 363, 3) := by decide +kernel
theorem dX11_knows_12 : decode cX11_knows 12 = .ok (.ifCond .eq 10, 3) := by decide +kernel
theorem dX11_knows_15 : decode cX11_knows 15 = .ok (.iload_n 3, 1) := by decide +kernel
theorem dX11_knows_16 : decode cX11_knows 16 = .ok (.invokestatic 366, 3) := by decide +kernel
theorem dX11_knows_19 : decode cX11_knows 19 = .ok (.ifCond .ne 6, 3) := by decide +kernel
theorem dX11_knows_22 : decode cX11_knows 22 = .ok (.bipush (-2), 2) := by decide +kernel
theorem dX11_knows_24 : decode cX11_knows 24 = .ok (.ireturn, 1) := by decide +kernel
theorem dX11_knows_25 : decode cX11_knows 25 = .ok (.aload_n 0, 1) := by decide +kernel
theorem dX11_knows_26 : decode cX11_knows 26 = .ok (.aload_n 0, 1) := by decide +kernel
theorem dX11_knows_27 : decode cX11_knows 27 = .ok (.getfield 73, 3) := by decide +kernel
theorem dX11_knows_30 : decode cX11_knows 30 = .ok (.aload_n 0, 1) := by decide +kernel
theorem dX11_knows_31 : decode cX11_knows 31 = .ok (.getfield 241, 3) := by decide +kernel
theorem dX11_knows_34 : decode cX11_knows 34 = .ok (.laload, 1) := by decide +kernel
theorem dX11_knows_35 : decode cX11_knows 35 = .ok (.iload_n 2, 1) := by decide +kernel
theorem dX11_knows_36 : decode cX11_knows 36 = .ok (.iload_n 3, 1) := by decide +kernel
theorem dX11_knows_37 : decode cX11_knows 37 = .ok (.iconst 1, 1) := by decide +kernel
theorem dX11_knows_38 : decode cX11_knows 38 = .ok (.invokevirtual 369, 3) := by decide +kernel
theorem dX11_knows_41 : decode cX11_knows 41 = .ok (.aload_n 0, 1) := by decide +kernel
theorem dX11_knows_42 : decode cX11_knows 42 = .ok (.getfield 76, 3) := by decide +kernel
theorem dX11_knows_45 : decode cX11_knows 45 = .ok (.iload_n 1, 1) := by decide +kernel
theorem dX11_knows_46 : decode cX11_knows 46 = .ok (.iaload, 1) := by decide +kernel
theorem dX11_knows_47 : decode cX11_knows 47 = .ok (.ireturn, 1) := by decide +kernel
noncomputable def f_X11_knows (a0 : Nat) (l1 : Int32) (l2 : Int32) (l3 : Int32) (μ : Mm) : Option (Int32 × Mm) :=
  if (mm_K μ a0).1 = 12 then (f_X11_isPerson a0 l1 μ).bind fun x2 => if x2 = 0 then some ((-2 : Int32), μ) else (f_X11_isDay l2 μ).bind fun x9 => if x9 = 0 then some ((-2 : Int32), μ) else (f_X11_areWays l3 μ).bind fun x16 => if x16 = 0 then some ((-2 : Int32), μ) else (gf_P 12 34 a0 μ).bind fun x27 => (gf_I 12 33 a0 μ).bind fun x31 => (ga_L x27 x31 μ).bind fun x34 => (f_X11_live a0 x34 l2 l3 (1 : Int32) μ).bind fun x38 => (gf_P 12 35 a0 x38).bind fun x42 => (ga_I x42 l1 x38).bind fun x46 => some (x46, x38) else none
abbrev Rn_X11_knows (G : Gv) (Q : Option Value → Mm → Prop) (pc : Nat) (lv : List (Nat × Value)) (st : List Value) (μ : Mm) : Prop := Rn G RX11 cX11_knows 4 (some .int) "knows" (rmd 4 0 0) (Zm G 0 0 Q) 0 0 pc lv st μ
set_option maxRecDepth 100000 in
set_option maxHeartbeats 4000000 in
theorem m_X11_knows {G : Gv} (a0 : Nat) (l1 : Int32) (l2 : Int32) (l3 : Int32) (μ : Mm) {r : (Int32 × Mm)} (hx : f_X11_knows a0 l1 l2 l3 μ = some r) : Mt G yX11_knows cX11_knows 4 (some .int) 4 0 0 [.ref a0, .int l1, .int l2, .int l3] μ (fun v μ' => v = some (.int r.1) ∧ μ' = r.2) := by
  refine Mt.of (by decide) (Nat.le_of_ble_eq_true rfl) ?_
  show Rn_X11_knows G (fun v μ' => v = some (.int r.1) ∧ μ' = r.2) 0 [(0, .ref a0), (1, .int l1), (2, .int l2), (3, .int l3)] [] μ
  obtain ⟨_, h⟩ := Sat_ifp (show Sat (f_X11_knows a0 l1 l2 l3 μ) (fun x => x = r) from ⟨_, hx, rfl⟩)
  refine r_aload_n dX11_knows_0 0 rfl ?_
  refine r_iload_n dX11_knows_1 1 rfl ?_
  obtain ⟨x2, e2, h⟩ := Sat_bind h
  refine r_cV (t := 12) [.int l1] [] (m_X11_isPerson a0 l1 μ e2) ck_X11_isPerson lk_X11_309 in_X11_isPerson se_X11_isPerson (kd_of e2) ⟨rfl, by decide, by decide⟩ rfl rfl (Nat.le_of_ble_eq_true rfl) ⟨by decide, by decide⟩ ⟨Nat.zero_le _, Nat.zero_le _⟩ dX11_knows_2 ?_
  refine r_if_eq 22 dX11_knows_5 (by decide) (fun c5 => ?_) (fun c5 => ?_)
  · have h := Sat_pos c5 h
    refine r_bipush (v := -2) dX11_knows_22 (by decide) ?_
    exact r_ireturn rfl (by rw [← Sat_eq h]; exact ⟨rfl, rfl⟩) dX11_knows_24
  · have h := Sat_neg c5 h
    refine r_iload_n dX11_knows_8 2 rfl ?_
    obtain ⟨x9, e9, h⟩ := Sat_bind h
    refine r_cS [.int l2] [] (m_X11_isDay l2 μ e9) ck_X11_isDay lk_X11_363 st_X11_isDay rfl rfl (Nat.le_of_ble_eq_true rfl) ⟨by decide, by decide⟩ ⟨Nat.zero_le _, Nat.zero_le _⟩ dX11_knows_9 ?_
    refine r_if_eq 22 dX11_knows_12 (by decide) (fun c12 => ?_) (fun c12 => ?_)
    · have h := Sat_pos c12 h
      refine r_bipush (v := -2) dX11_knows_22 (by decide) ?_
      exact r_ireturn rfl (by rw [← Sat_eq h]; exact ⟨rfl, rfl⟩) dX11_knows_24
    · have h := Sat_neg c12 h
      refine r_iload_n dX11_knows_15 3 rfl ?_
      obtain ⟨x16, e16, h⟩ := Sat_bind h
      refine r_cS [.int l3] [] (m_X11_areWays l3 μ e16) ck_X11_areWays lk_X11_366 st_X11_areWays rfl rfl (Nat.le_of_ble_eq_true rfl) ⟨by decide, by decide⟩ ⟨Nat.zero_le _, Nat.zero_le _⟩ dX11_knows_16 ?_
      refine r_if_ne 25 dX11_knows_19 (by decide) (fun c19 => ?_) (fun c19 => ?_)
      · have h := Sat_neg c19 h
        refine r_aload_n dX11_knows_25 0 rfl ?_
        refine r_aload_n dX11_knows_26 0 rfl ?_
        obtain ⟨x27, e27, h⟩ := Sat_bind h
        refine r_getP fk_X11_73 rfl e27 dX11_knows_27 ?_
        refine r_aload_n dX11_knows_30 0 rfl ?_
        obtain ⟨x31, e31, h⟩ := Sat_bind h
        refine r_getI fk_X11_241 rfl e31 dX11_knows_31 ?_
        obtain ⟨x34, e34, h⟩ := Sat_bind h
        refine r_laload e34 dX11_knows_34 ?_
        refine r_iload_n dX11_knows_35 2 rfl ?_
        refine r_iload_n dX11_knows_36 3 rfl ?_
        refine r_iconst (v := 1) dX11_knows_37 (by decide) ?_
        obtain ⟨x38, e38, h⟩ := Sat_bind h
        refine r_cV (t := 12) [.long x34, .int l2, .int l3, .int (1 : Int32)] [] (m_X11_live a0 x34 l2 l3 (1 : Int32) μ e38) ck_X11_live lk_X11_369 in_X11_live se_X11_live (kd_of e38) ⟨rfl, by decide, by decide⟩ rfl rfl (Nat.le_of_ble_eq_true rfl) ⟨by decide, by decide⟩ ⟨Nat.zero_le _, Nat.zero_le _⟩ dX11_knows_38 ?_
        refine r_aload_n dX11_knows_41 0 rfl ?_
        obtain ⟨x42, e42, h⟩ := Sat_bind h
        refine r_getP fk_X11_76 rfl e42 dX11_knows_42 ?_
        refine r_iload_n dX11_knows_45 1 rfl ?_
        obtain ⟨x46, e46, h⟩ := Sat_bind h
        refine r_iaload e46 dX11_knows_46 ?_
        exact r_ireturn rfl (by rw [← Sat_eq h]; exact ⟨rfl, rfl⟩) dX11_knows_47
      · have h := Sat_pos c19 h
        refine r_bipush (v := -2) dX11_knows_22 (by decide) ?_
        exact r_ireturn rfl (by rw [← Sat_eq h]; exact ⟨rfl, rfl⟩) dX11_knows_24
theorem dX11_lot_0 : decode cX11_lot 0 = .ok (.aload_n 0, 1) := by decide +kernel
theorem dX11_lot_1 : decode cX11_lot 1 = .ok (.iload_n 1, 1) := by decide +kernel
theorem dX11_lot_2 : decode cX11_lot 2 = .ok (.invokevirtual 315, 3) := by decide +kernel
theorem dX11_lot_5 : decode cX11_lot 5 = .ok (.ifCond .eq 19, 3) := by decide +kernel
theorem dX11_lot_8 : decode cX11_lot 8 = .ok (.iload_n 2, 1) := by decide +kernel
theorem dX11_lot_9 : decode cX11_lot 9 = .ok (.invokestatic 363, 3) := by decide +kernel
theorem dX11_lot_12 : decode cX11_lot 12 = .ok (.ifCond .eq 12, 3) := by decide +kernel
theorem dX11_lot_15 : decode cX11_lot 15 = .ok (.iload_n 3, 1) := by decide +kernel
theorem dX11_lot_16 : decode cX11_lot 16 = .ok (.iconst 0, 1) := by decide +kernel
theorem dX11_lot_17 : decode cX11_lot 17 = .ok (.iconst 1, 1) := by decide +kernel
theorem dX11_lot_18 : decode cX11_lot 18 = .ok (.invokestatic 217, 3) := by decide +kernel
theorem dX11_lot_21 : decode cX11_lot 21 = .ok (.ifCond .ne 6, 3) := by decide +kernel
theorem dX11_lot_24 : decode cX11_lot 24 = .ok (.bipush (-2), 2) := by decide +kernel
theorem dX11_lot_26 : decode cX11_lot 26 = .ok (.ireturn, 1) := by decide +kernel
theorem dX11_lot_27 : decode cX11_lot 27 = .ok (.iconst 0, 1) := by decide +kernel
theorem dX11_lot_28 : decode cX11_lot 28 = .ok (.istore 5, 2) := by decide +kernel
theorem dX11_lot_30 : decode cX11_lot 30 = .ok (.iconst 0, 1) := by decide +kernel
theorem dX11_lot_31 : decode cX11_lot 31 = .ok (.istore 6, 2) := by decide +kernel
theorem dX11_lot_33 : decode cX11_lot 33 = .ok (.iload 6, 2) := by decide +kernel
theorem dX11_lot_35 : decode cX11_lot 35 = .ok (.aload_n 0, 1) := by decide +kernel
theorem dX11_lot_36 : decode cX11_lot 36 = .ok (.getfield 234, 3) := by decide +kernel
theorem dX11_lot_39 : decode cX11_lot 39 = .ok (.if_icmp .ge 61, 3) := by decide +kernel
theorem dX11_lot_42 : decode cX11_lot 42 = .ok (.aload_n 0, 1) := by decide +kernel
theorem dX11_lot_43 : decode cX11_lot 43 = .ok (.aload_n 0, 1) := by decide +kernel
theorem dX11_lot_44 : decode cX11_lot 44 = .ok (.getfield 73, 3) := by decide +kernel
theorem dX11_lot_47 : decode cX11_lot 47 = .ok (.iload 6, 2) := by decide +kernel
theorem dX11_lot_49 : decode cX11_lot 49 = .ok (.laload, 1) := by decide +kernel
theorem dX11_lot_50 : decode cX11_lot 50 = .ok (.iload_n 2, 1) := by decide +kernel
theorem dX11_lot_51 : decode cX11_lot 51 = .ok (.bipush 7, 2) := by decide +kernel
theorem dX11_lot_53 : decode cX11_lot 53 = .ok (.iconst 1, 1) := by decide +kernel
theorem dX11_lot_54 : decode cX11_lot 54 = .ok (.invokevirtual 369, 3) := by decide +kernel
theorem dX11_lot_57 : decode cX11_lot 57 = .ok (.aload_n 0, 1) := by decide +kernel
theorem dX11_lot_58 : decode cX11_lot 58 = .ok (.iload_n 1, 1) := by decide +kernel
theorem dX11_lot_59 : decode cX11_lot 59 = .ok (.invokevirtual 373, 3) := by decide +kernel
theorem dX11_lot_62 : decode cX11_lot 62 = .ok (.istore 7, 2) := by decide +kernel
theorem dX11_lot_64 : decode cX11_lot 64 = .ok (.iload 5, 2) := by decide +kernel
theorem dX11_lot_66 : decode cX11_lot 66 = .ok (.iload_n 3, 1) := by decide +kernel
theorem dX11_lot_67 : decode cX11_lot 67 = .ok (.ifCond .ne 8, 3) := by decide +kernel
theorem dX11_lot_70 : decode cX11_lot 70 = .ok (.iload 7, 2) := by decide +kernel
theorem dX11_lot_72 : decode cX11_lot 72 = .ok (.goto 19, 3) := by decide +kernel
theorem dX11_lot_75 : decode cX11_lot 75 = .ok (.iload 7, 2) := by decide +kernel
theorem dX11_lot_77 : decode cX11_lot 77 = .ok (.aload_n 0, 1) := by decide +kernel
theorem dX11_lot_78 : decode cX11_lot 78 = .ok (.getfield 17, 3) := by decide +kernel
theorem dX11_lot_81 : decode cX11_lot 81 = .ok (.iconst 0, 1) := by decide +kernel
theorem dX11_lot_82 : decode cX11_lot 82 = .ok (.iaload, 1) := by decide +kernel
theorem dX11_lot_83 : decode cX11_lot 83 = .ok (.if_icmp .ne 7, 3) := by decide +kernel
theorem dX11_lot_86 : decode cX11_lot 86 = .ok (.iconst 1, 1) := by decide +kernel
theorem dX11_lot_87 : decode cX11_lot 87 = .ok (.goto 4, 3) := by decide +kernel
theorem dX11_lot_90 : decode cX11_lot 90 = .ok (.iconst 0, 1) := by decide +kernel
theorem dX11_lot_91 : decode cX11_lot 91 = .ok (.iadd, 1) := by decide +kernel
theorem dX11_lot_92 : decode cX11_lot 92 = .ok (.istore 5, 2) := by decide +kernel
theorem dX11_lot_94 : decode cX11_lot 94 = .ok (.iinc 6 1, 3) := by decide +kernel
theorem dX11_lot_97 : decode cX11_lot 97 = .ok (.goto (-64), 3) := by decide +kernel
theorem dX11_lot_100 : decode cX11_lot 100 = .ok (.iload 4, 2) := by decide +kernel
theorem dX11_lot_102 : decode cX11_lot 102 = .ok (.ifCond .eq 10, 3) := by decide +kernel
theorem dX11_lot_105 : decode cX11_lot 105 = .ok (.aload_n 0, 1) := by decide +kernel
theorem dX11_lot_106 : decode cX11_lot 106 = .ok (.getfield 234, 3) := by decide +kernel
theorem dX11_lot_109 : decode cX11_lot 109 = .ok (.goto 5, 3) := by decide +kernel
theorem dX11_lot_112 : decode cX11_lot 112 = .ok (.iload 5, 2) := by decide +kernel
theorem dX11_lot_114 : decode cX11_lot 114 = .ok (.iload 5, 2) := by decide +kernel
theorem dX11_lot_116 : decode cX11_lot 116 = .ok (.aload_n 0, 1) := by decide +kernel
theorem dX11_lot_117 : decode cX11_lot 117 = .ok (.getfield 234, 3) := by decide +kernel
theorem dX11_lot_120 : decode cX11_lot 120 = .ok (.invokestatic 431, 3) := by decide +kernel
theorem dX11_lot_123 : decode cX11_lot 123 = .ok (.idiv, 1) := by decide +kernel
theorem dX11_lot_124 : decode cX11_lot 124 = .ok (.ireturn, 1) := by decide +kernel
noncomputable def f_X11_lot_J114 (a0 : Nat) (l5 : Int32) (k0 : Int32) (μ : Mm) : Option (Int32 × Mm) :=
  (gf_I 12 32 a0 μ).bind fun x117 => (f_X11_common l5 x117 μ).bind fun x120 => if x120 = 0 then none else some (k0 / x120, μ)
noncomputable def f_X11_lot_J100 (a0 : Nat) (l4 : Int32) (l5 : Int32) (μ : Mm) : Option (Int32 × Mm) :=
  if l4 = 0 then f_X11_lot_J114 a0 l5 l5 μ else (gf_I 12 32 a0 μ).bind fun x106 => f_X11_lot_J114 a0 l5 x106 μ
noncomputable def f_X11_lot_J91 (a0 : Nat) (l1 : Int32) (l2 : Int32) (l3 : Int32) (l4 : Int32) (l6 : Int32) (k0 : Int32) (k1 : Int32) (μ : Mm) : Option ((Int32 × Int32 × Mm) ⊕ (Int32 × Mm)) :=
  (some (k0 + k1)).bind fun v92 => (some (l6 + (1 : Int32))).bind fun v94 => some (.inl (v92, v94, μ))
noncomputable def f_X11_lot_L33 (a0 : Nat) (l1 : Int32) (l2 : Int32) (l3 : Int32) (l4 : Int32) (s33 : Int32 × Int32 × Mm) : Option ((Int32 × Int32 × Mm) ⊕ (Int32 × Mm)) :=
  (gf_I 12 32 a0 s33.2.2).bind fun x36 => if x36 ≤ s33.2.1 then some (.inr (s33.1, s33.2.2)) else (gf_P 12 34 a0 s33.2.2).bind fun x44 => (ga_L x44 s33.2.1 s33.2.2).bind fun x49 => (f_X11_live a0 x49 l2 (7 : Int32) (1 : Int32) s33.2.2).bind fun x54 => (f_X11_manyKnow a0 l1 x54).bind fun x59 => if l3 = 0 then f_X11_lot_J91 a0 l1 l2 l3 l4 s33.2.1 s33.1 x59 x54 else (gf_P 12 12 a0 x54).bind fun x78 => (ga_I x78 (0 : Int32) x54).bind fun x82 => if x59 = x82 then f_X11_lot_J91 a0 l1 l2 l3 l4 s33.2.1 s33.1 (1 : Int32) x54 else f_X11_lot_J91 a0 l1 l2 l3 l4 s33.2.1 s33.1 (0 : Int32) x54
noncomputable def f_X11_lot (a0 : Nat) (l1 : Int32) (l2 : Int32) (l3 : Int32) (l4 : Int32) (μ : Mm) : Option (Int32 × Mm) :=
  if (mm_K μ a0).1 = 12 then (f_X11_isFact a0 l1 μ).bind fun x2 => if x2 = 0 then some ((-2 : Int32), μ) else (f_X11_isDay l2 μ).bind fun x9 => if x9 = 0 then some ((-2 : Int32), μ) else (f_X11_in l3 (0 : Int32) (1 : Int32) μ).bind fun x18 => if x18 = 0 then some ((-2 : Int32), μ) else (whl (f_X11_lot_L33 a0 l1 l2 l3 l4) ((0 : Int32), (0 : Int32), μ)).bind (fun b33 => f_X11_lot_J100 a0 l4 b33.1 b33.2) else none
abbrev Rn_X11_lot (G : Gv) (Q : Option Value → Mm → Prop) (pc : Nat) (lv : List (Nat × Value)) (st : List Value) (μ : Mm) : Prop := Rn G RX11 cX11_lot 8 (some .int) "lot" (rmd 4 0 0) (Zm G 0 0 Q) 0 0 pc lv st μ
set_option maxRecDepth 100000 in
set_option maxHeartbeats 4000000 in
theorem m_X11_lot {G : Gv} (a0 : Nat) (l1 : Int32) (l2 : Int32) (l3 : Int32) (l4 : Int32) (μ : Mm) {r : (Int32 × Mm)} (hx : f_X11_lot a0 l1 l2 l3 l4 μ = some r) : Mt G yX11_lot cX11_lot 8 (some .int) 4 0 0 [.ref a0, .int l1, .int l2, .int l3, .int l4] μ (fun v μ' => v = some (.int r.1) ∧ μ' = r.2) := by
  refine Mt.of (by decide) (Nat.le_of_ble_eq_true rfl) ?_
  show Rn_X11_lot G (fun v μ' => v = some (.int r.1) ∧ μ' = r.2) 0 [(0, .ref a0), (1, .int l1), (2, .int l2), (3, .int l3), (4, .int l4)] [] μ
  obtain ⟨_, h⟩ := Sat_ifp (show Sat (f_X11_lot a0 l1 l2 l3 l4 μ) (fun x => x = r) from ⟨_, hx, rfl⟩)
  have J114 : ∀ (a0_114 : Nat) (l5_114 : Int32) (k0_114 : Int32) (μ_114 : Mm), Sat (f_X11_lot_J114 a0_114 l5_114 k0_114 μ_114) (fun x => x = r) → Rn_X11_lot G (fun v μ' => v = some (.int r.1) ∧ μ' = r.2) 114 [(0, .ref a0_114), (5, .int l5_114)] [.int k0_114] μ_114 := by
    intro a0_114 l5_114 k0_114 μ_114 h
    refine r_iload dX11_lot_114 1 rfl ?_
    refine r_aload_n dX11_lot_116 0 rfl ?_
    obtain ⟨x117, e117, h⟩ := Sat_bind h
    refine r_getI fk_X11_234 rfl e117 dX11_lot_117 ?_
    obtain ⟨x120, e120, h⟩ := Sat_bind h
    refine r_cS [.int l5_114, .int x117] [.int k0_114] (m_X11_common l5_114 x117 μ_114 e120) ck_X11_common lk_X11_431 st_X11_common rfl rfl (Nat.le_of_ble_eq_true rfl) ⟨by decide, by decide⟩ ⟨Nat.zero_le _, Nat.zero_le _⟩ dX11_lot_120 ?_
    obtain ⟨z123, h⟩ := Sat_ifn h
    refine r_idiv dX11_lot_123 z123 ?_
    exact r_ireturn rfl (by rw [← Sat_eq h]; exact ⟨rfl, rfl⟩) dX11_lot_124
  have J100 : ∀ (a0_100 : Nat) (l4_100 : Int32) (l5_100 : Int32) (μ_100 : Mm), Sat (f_X11_lot_J100 a0_100 l4_100 l5_100 μ_100) (fun x => x = r) → Rn_X11_lot G (fun v μ' => v = some (.int r.1) ∧ μ' = r.2) 100 [(0, .ref a0_100), (4, .int l4_100), (5, .int l5_100)] [] μ_100 := by
    intro a0_100 l4_100 l5_100 μ_100 h
    refine r_iload dX11_lot_100 1 rfl ?_
    refine r_if_eq 112 dX11_lot_102 (by decide) (fun c102 => ?_) (fun c102 => ?_)
    · have h := Sat_pos c102 h
      refine r_iload dX11_lot_112 2 rfl ?_
      exact r_sub [0, 2] rfl (J114 a0_100 l5_100 l5_100 μ_100 h)
    · have h := Sat_neg c102 h
      refine r_aload_n dX11_lot_105 0 rfl ?_
      obtain ⟨x106, e106, h⟩ := Sat_bind h
      refine r_getI fk_X11_234 rfl e106 dX11_lot_106 ?_
      refine r_goto 114 dX11_lot_109 (by decide) ?_
      exact r_sub [0, 2] rfl (J114 a0_100 l5_100 x106 μ_100 h)
  refine r_aload_n dX11_lot_0 0 rfl ?_
  refine r_iload_n dX11_lot_1 1 rfl ?_
  obtain ⟨x2, e2, h⟩ := Sat_bind h
  refine r_cV (t := 12) [.int l1] [] (m_X11_isFact a0 l1 μ e2) ck_X11_isFact lk_X11_315 in_X11_isFact se_X11_isFact (kd_of e2) ⟨rfl, by decide, by decide⟩ rfl rfl (Nat.le_of_ble_eq_true rfl) ⟨by decide, by decide⟩ ⟨Nat.zero_le _, Nat.zero_le _⟩ dX11_lot_2 ?_
  refine r_if_eq 24 dX11_lot_5 (by decide) (fun c5 => ?_) (fun c5 => ?_)
  · have h := Sat_pos c5 h
    refine r_bipush (v := -2) dX11_lot_24 (by decide) ?_
    exact r_ireturn rfl (by rw [← Sat_eq h]; exact ⟨rfl, rfl⟩) dX11_lot_26
  · have h := Sat_neg c5 h
    refine r_iload_n dX11_lot_8 2 rfl ?_
    obtain ⟨x9, e9, h⟩ := Sat_bind h
    refine r_cS [.int l2] [] (m_X11_isDay l2 μ e9) ck_X11_isDay lk_X11_363 st_X11_isDay rfl rfl (Nat.le_of_ble_eq_true rfl) ⟨by decide, by decide⟩ ⟨Nat.zero_le _, Nat.zero_le _⟩ dX11_lot_9 ?_
    refine r_if_eq 24 dX11_lot_12 (by decide) (fun c12 => ?_) (fun c12 => ?_)
    · have h := Sat_pos c12 h
      refine r_bipush (v := -2) dX11_lot_24 (by decide) ?_
      exact r_ireturn rfl (by rw [← Sat_eq h]; exact ⟨rfl, rfl⟩) dX11_lot_26
    · have h := Sat_neg c12 h
      refine r_iload_n dX11_lot_15 3 rfl ?_
      refine r_iconst (v := 0) dX11_lot_16 (by decide) ?_
      refine r_iconst (v := 1) dX11_lot_17 (by decide) ?_
      obtain ⟨x18, e18, h⟩ := Sat_bind h
      refine r_cS [.int l3, .int (0 : Int32), .int (1 : Int32)] [] (m_X11_in l3 (0 : Int32) (1 : Int32) μ e18) ck_X11_in lk_X11_217 st_X11_in rfl rfl (Nat.le_of_ble_eq_true rfl) ⟨by decide, by decide⟩ ⟨Nat.zero_le _, Nat.zero_le _⟩ dX11_lot_18 ?_
      refine r_if_ne 27 dX11_lot_21 (by decide) (fun c21 => ?_) (fun c21 => ?_)
      · have h := Sat_neg c21 h
        refine r_iconst (v := 0) dX11_lot_27 (by decide) ?_
        refine r_istore (lv' := [(5, .int (0 : Int32)), (0, .ref a0), (1, .int l1), (2, .int l2), (3, .int l3), (4, .int l4)]) dX11_lot_28 (by decide) rfl ?_
        refine r_iconst (v := 0) dX11_lot_30 (by decide) ?_
        refine r_istore (lv' := [(6, .int (0 : Int32)), (5, .int (0 : Int32)), (0, .ref a0), (1, .int l1), (2, .int l2), (3, .int l3), (4, .int l4)]) dX11_lot_31 (by decide) rfl ?_
        refine r_sub (lv' := [(0, .ref a0), (1, .int l1), (2, .int l2), (3, .int l3), (4, .int l4), (5, .int (0 : Int32)), (6, .int (0 : Int32))]) [2, 3, 4, 5, 6, 1, 0] rfl ?_
        refine whl_K (s0 := (((0 : Int32), (0 : Int32), μ) : Int32 × Int32 × Mm)) (RR := fun (s33 : Int32 × Int32 × Mm) => Rn_X11_lot G (fun v μ' => v = some (.int r.1) ∧ μ' = r.2) 33 [(0, .ref a0), (1, .int l1), (2, .int l2), (3, .int l3), (4, .int l4), (5, .int s33.1), (6, .int s33.2.1)] [] s33.2.2) ?_ (Sat_bindK h)
        intro s33 K33 hI33 hX33 h
        have J91 : ∀ (l6_91 : Int32) (k0_91 : Int32) (k1_91 : Int32) (μ_91 : Mm), Sat (f_X11_lot_J91 a0 l1 l2 l3 l4 l6_91 k0_91 k1_91 μ_91) K33 → Rn_X11_lot G (fun v μ' => v = some (.int r.1) ∧ μ' = r.2) 91 [(0, .ref a0), (1, .int l1), (2, .int l2), (3, .int l3), (4, .int l4), (6, .int l6_91)] [.int k1_91, .int k0_91] μ_91 := by
          intro l6_91 k0_91 k1_91 μ_91 h
          refine r_iadd dX11_lot_91 ?_
          obtain ⟨v92, e92, h⟩ := Sat_bind h
          refine r_topi (Option.some.inj e92) ?_
          refine r_istore (lv' := [(5, .int v92), (0, .ref a0), (1, .int l1), (2, .int l2), (3, .int l3), (4, .int l4), (6, .int l6_91)]) dX11_lot_92 (by decide) rfl ?_
          obtain ⟨v94, e94, h⟩ := Sat_bind h
          refine r_iinc (j := 6) (v := v94) (lv' := [(6, .int v94), (5, .int v92), (0, .ref a0), (1, .int l1), (2, .int l2), (3, .int l3), (4, .int l4)]) dX11_lot_94 rfl (iinc_v e94 (by decide)) (by decide) rfl ?_
          refine r_goto 33 dX11_lot_97 (by decide) ?_
          exact r_sub [2, 3, 4, 5, 6, 1, 0] rfl (hI33 _ (Sat_some h))
        refine r_iload dX11_lot_33 6 rfl ?_
        refine r_aload_n dX11_lot_35 0 rfl ?_
        obtain ⟨x36, e36, h⟩ := Sat_bind h
        refine r_getI fk_X11_234 rfl e36 dX11_lot_36 ?_
        refine r_icmp_ge 100 dX11_lot_39 (by decide) (fun c39 => ?_) (fun c39 => ?_)
        · have h := Sat_pos c39 h
          have h := hX33 _ (Sat_some h)
          exact r_sub [0, 4, 5] rfl (J100 a0 l4 s33.1 s33.2.2 h)
        · have h := Sat_neg c39 h
          refine r_aload_n dX11_lot_42 0 rfl ?_
          refine r_aload_n dX11_lot_43 0 rfl ?_
          obtain ⟨x44, e44, h⟩ := Sat_bind h
          refine r_getP fk_X11_73 rfl e44 dX11_lot_44 ?_
          refine r_iload dX11_lot_47 6 rfl ?_
          obtain ⟨x49, e49, h⟩ := Sat_bind h
          refine r_laload e49 dX11_lot_49 ?_
          refine r_iload_n dX11_lot_50 2 rfl ?_
          refine r_bipush (v := 7) dX11_lot_51 (by decide) ?_
          refine r_iconst (v := 1) dX11_lot_53 (by decide) ?_
          obtain ⟨x54, e54, h⟩ := Sat_bind h
          refine r_cV (t := 12) [.long x49, .int l2, .int (7 : Int32), .int (1 : Int32)] [] (m_X11_live a0 x49 l2 (7 : Int32) (1 : Int32) s33.2.2 e54) ck_X11_live lk_X11_369 in_X11_live se_X11_live (kd_of e54) ⟨rfl, by decide, by decide⟩ rfl rfl (Nat.le_of_ble_eq_true rfl) ⟨by decide, by decide⟩ ⟨Nat.zero_le _, Nat.zero_le _⟩ dX11_lot_54 ?_
          refine r_aload_n dX11_lot_57 0 rfl ?_
          refine r_iload_n dX11_lot_58 1 rfl ?_
          obtain ⟨x59, e59, h⟩ := Sat_bind h
          refine r_cV (t := 12) [.int l1] [] (m_X11_manyKnow a0 l1 x54 e59) ck_X11_manyKnow lk_X11_373 in_X11_manyKnow se_X11_manyKnow (kd_of e59) ⟨rfl, by decide, by decide⟩ rfl rfl (Nat.le_of_ble_eq_true rfl) ⟨by decide, by decide⟩ ⟨Nat.zero_le _, Nat.zero_le _⟩ dX11_lot_59 ?_
          refine r_istore (lv' := [(7, .int x59), (0, .ref a0), (1, .int l1), (2, .int l2), (3, .int l3), (4, .int l4), (5, .int s33.1), (6, .int s33.2.1)]) dX11_lot_62 (by decide) rfl ?_
          refine r_iload dX11_lot_64 6 rfl ?_
          refine r_iload_n dX11_lot_66 4 rfl ?_
          refine r_if_ne 75 dX11_lot_67 (by decide) (fun c67 => ?_) (fun c67 => ?_)
          · have h := Sat_neg c67 h
            refine r_iload dX11_lot_75 0 rfl ?_
            refine r_aload_n dX11_lot_77 1 rfl ?_
            obtain ⟨x78, e78, h⟩ := Sat_bind h
            refine r_getP fk_X11_17 rfl e78 dX11_lot_78 ?_
            refine r_iconst (v := 0) dX11_lot_81 (by decide) ?_
            obtain ⟨x82, e82, h⟩ := Sat_bind h
            refine r_iaload e82 dX11_lot_82 ?_
            refine r_icmp_ne 90 dX11_lot_83 (by decide) (fun c83 => ?_) (fun c83 => ?_)
            · have h := Sat_neg c83 h
              refine r_iconst (v := 0) dX11_lot_90 (by decide) ?_
              exact r_sub [1, 2, 3, 4, 5, 7] rfl (J91 s33.2.1 s33.1 (0 : Int32) x54 h)
            · have h := Sat_pos c83 h
              refine r_iconst (v := 1) dX11_lot_86 (by decide) ?_
              refine r_goto 91 dX11_lot_87 (by decide) ?_
              exact r_sub [1, 2, 3, 4, 5, 7] rfl (J91 s33.2.1 s33.1 (1 : Int32) x54 h)
          · have h := Sat_pos c67 h
            refine r_iload dX11_lot_70 0 rfl ?_
            refine r_goto 91 dX11_lot_72 (by decide) ?_
            exact r_sub [1, 2, 3, 4, 5, 7] rfl (J91 s33.2.1 s33.1 x59 x54 h)
      · have h := Sat_pos c21 h
        refine r_bipush (v := -2) dX11_lot_24 (by decide) ?_
        exact r_ireturn rfl (by rw [← Sat_eq h]; exact ⟨rfl, rfl⟩) dX11_lot_26
theorem dX11_lotDay_0 : decode cX11_lotDay 0 = .ok (.aload_n 0, 1) := by decide +kernel
theorem dX11_lotDay_1 : decode cX11_lotDay 1 = .ok (.iload_n 1, 1) := by decide +kernel
theorem dX11_lotDay_2 : decode cX11_lotDay 2 = .ok (.invokevirtual 315, 3) := by decide +kernel
theorem dX11_lotDay_5 : decode cX11_lotDay 5 = .ok (.ifCond .ne 6, 3) := by decide +kernel
theorem dX11_lotDay_8 : decode cX11_lotDay 8 = .ok (.bipush (-2), 2) := by decide +kernel
theorem dX11_lotDay_10 : decode cX11_lotDay 10 = .ok (.ireturn, 1) := by decide +kernel
theorem dX11_lotDay_11 : decode cX11_lotDay 11 = .ok (.iconst 0, 1) := by decide +kernel
theorem dX11_lotDay_12 : decode cX11_lotDay 12 = .ok (.istore_n 3, 1) := by decide +kernel
theorem dX11_lotDay_13 : decode cX11_lotDay 13 = .ok (.iconst 0, 1) := by decide +kernel
theorem dX11_lotDay_14 : decode cX11_lotDay 14 = .ok (.istore 4, 2) := by decide +kernel
theorem dX11_lotDay_16 : decode cX11_lotDay 16 = .ok (.iload 4, 2) := by decide +kernel
theorem dX11_lotDay_18 : decode cX11_lotDay 18 = .ok (.aload_n 0, 1) := by decide +kernel
theorem dX11_lotDay_19 : decode cX11_lotDay 19 = .ok (.getfield 234, 3) := by decide +kernel
theorem dX11_lotDay_22 : decode cX11_lotDay 22 = .ok (.if_icmp .ge 24, 3) := by decide +kernel
theorem dX11_lotDay_25 : decode cX11_lotDay 25 = .ok (.iload_n 3, 1) := by decide +kernel
theorem dX11_lotDay_26 : decode cX11_lotDay 26 = .ok (.aload_n 0, 1) := by decide +kernel
theorem dX11_lotDay_27 : decode cX11_lotDay 27 = .ok (.aload_n 0, 1) := by decide +kernel
theorem dX11_lotDay_28 : decode cX11_lotDay 28 = .ok (.getfield 73, 3) := by decide +kernel
theorem dX11_lotDay_31 : decode cX11_lotDay 31 = .ok (.iload 4, 2) := by decide +kernel
theorem dX11_lotDay_33 : decode cX11_lotDay 33 = .ok (.laload, 1) := by decide +kernel
theorem dX11_lotDay_34 : decode cX11_lotDay 34 = .ok (.iload_n 1, 1) := by decide +kernel
theorem dX11_lotDay_35 : decode cX11_lotDay 35 = .ok (.invokevirtual 434, 3) := by decide +kernel
theorem dX11_lotDay_38 : decode cX11_lotDay 38 = .ok (.iadd, 1) := by decide +kernel
theorem dX11_lotDay_39 : decode cX11_lotDay 39 = .ok (.istore_n 3, 1) := by decide +kernel
theorem dX11_lotDay_40 : decode cX11_lotDay 40 = .ok (.iinc 4 1, 3) := by decide +kernel
theorem dX11_lotDay_43 : decode cX11_lotDay 43 = .ok (.goto (-27), 3) := by decide +kernel
theorem dX11_lotDay_46 : decode cX11_lotDay 46 = .ok (.iload_n 2, 1) := by decide +kernel
theorem dX11_lotDay_47 : decode cX11_lotDay 47 = .ok (.ifCond .eq 10, 3) := by decide +kernel
theorem dX11_lotDay_50 : decode cX11_lotDay 50 = .ok (.aload_n 0, 1) := by decide +kernel
theorem dX11_lotDay_51 : decode cX11_lotDay 51 = .ok (.getfield 234, 3) := by decide +kernel
theorem dX11_lotDay_54 : decode cX11_lotDay 54 = .ok (.goto 4, 3) := by decide +kernel
theorem dX11_lotDay_57 : decode cX11_lotDay 57 = .ok (.iload_n 3, 1) := by decide +kernel
theorem dX11_lotDay_58 : decode cX11_lotDay 58 = .ok (.iload_n 3, 1) := by decide +kernel
theorem dX11_lotDay_59 : decode cX11_lotDay 59 = .ok (.aload_n 0, 1) := by decide +kernel
theorem dX11_lotDay_60 : decode cX11_lotDay 60 = .ok (.getfield 234, 3) := by decide +kernel
theorem dX11_lotDay_63 : decode cX11_lotDay 63 = .ok (.invokestatic 431, 3) := by decide +kernel
theorem dX11_lotDay_66 : decode cX11_lotDay 66 = .ok (.idiv, 1) := by decide +kernel
theorem dX11_lotDay_67 : decode cX11_lotDay 67 = .ok (.ireturn, 1) := by decide +kernel
noncomputable def f_X11_lotDay_J58 (a0 : Nat) (l3 : Int32) (k0 : Int32) (μ : Mm) : Option (Int32 × Mm) :=
  (gf_I 12 32 a0 μ).bind fun x60 => (f_X11_common l3 x60 μ).bind fun x63 => if x63 = 0 then none else some (k0 / x63, μ)
noncomputable def f_X11_lotDay_J46 (a0 : Nat) (l2 : Int32) (l3 : Int32) (μ : Mm) : Option (Int32 × Mm) :=
  if l2 = 0 then f_X11_lotDay_J58 a0 l3 l3 μ else (gf_I 12 32 a0 μ).bind fun x51 => f_X11_lotDay_J58 a0 l3 x51 μ
noncomputable def f_X11_lotDay_L16 (a0 : Nat) (l1 : Int32) (l2 : Int32) (s16 : Int32 × Int32 × Mm) : Option ((Int32 × Int32 × Mm) ⊕ (Int32 × Mm)) :=
  (gf_I 12 32 a0 s16.2.2).bind fun x19 => if x19 ≤ s16.2.1 then some (.inr (s16.1, s16.2.2)) else (gf_P 12 34 a0 s16.2.2).bind fun x28 => (ga_L x28 s16.2.1 s16.2.2).bind fun x33 => (f_X11_allDay a0 x33 l1 s16.2.2).bind fun x35 => (some (s16.1 + x35.1)).bind fun v39 => (some (s16.2.1 + (1 : Int32))).bind fun v40 => some (.inl (v39, v40, x35.2))
noncomputable def f_X11_lotDay (a0 : Nat) (l1 : Int32) (l2 : Int32) (μ : Mm) : Option (Int32 × Mm) :=
  if (mm_K μ a0).1 = 12 then (f_X11_isFact a0 l1 μ).bind fun x2 => if x2 = 0 then some ((-2 : Int32), μ) else (whl (f_X11_lotDay_L16 a0 l1 l2) ((0 : Int32), (0 : Int32), μ)).bind (fun b16 => f_X11_lotDay_J46 a0 l2 b16.1 b16.2) else none
abbrev Rn_X11_lotDay (G : Gv) (Q : Option Value → Mm → Prop) (pc : Nat) (lv : List (Nat × Value)) (st : List Value) (μ : Mm) : Prop := Rn G RX11 cX11_lotDay 5 (some .int) "lotDay" (rmd 4 0 0) (Zm G 0 0 Q) 0 0 pc lv st μ
set_option maxRecDepth 100000 in
set_option maxHeartbeats 4000000 in
theorem m_X11_lotDay {G : Gv} (a0 : Nat) (l1 : Int32) (l2 : Int32) (μ : Mm) {r : (Int32 × Mm)} (hx : f_X11_lotDay a0 l1 l2 μ = some r) : Mt G yX11_lotDay cX11_lotDay 5 (some .int) 4 0 0 [.ref a0, .int l1, .int l2] μ (fun v μ' => v = some (.int r.1) ∧ μ' = r.2) := by
  refine Mt.of (by decide) (Nat.le_of_ble_eq_true rfl) ?_
  show Rn_X11_lotDay G (fun v μ' => v = some (.int r.1) ∧ μ' = r.2) 0 [(0, .ref a0), (1, .int l1), (2, .int l2)] [] μ
  obtain ⟨_, h⟩ := Sat_ifp (show Sat (f_X11_lotDay a0 l1 l2 μ) (fun x => x = r) from ⟨_, hx, rfl⟩)
  have J58 : ∀ (a0_58 : Nat) (l3_58 : Int32) (k0_58 : Int32) (μ_58 : Mm), Sat (f_X11_lotDay_J58 a0_58 l3_58 k0_58 μ_58) (fun x => x = r) → Rn_X11_lotDay G (fun v μ' => v = some (.int r.1) ∧ μ' = r.2) 58 [(0, .ref a0_58), (3, .int l3_58)] [.int k0_58] μ_58 := by
    intro a0_58 l3_58 k0_58 μ_58 h
    refine r_iload_n dX11_lotDay_58 1 rfl ?_
    refine r_aload_n dX11_lotDay_59 0 rfl ?_
    obtain ⟨x60, e60, h⟩ := Sat_bind h
    refine r_getI fk_X11_234 rfl e60 dX11_lotDay_60 ?_
    obtain ⟨x63, e63, h⟩ := Sat_bind h
    refine r_cS [.int l3_58, .int x60] [.int k0_58] (m_X11_common l3_58 x60 μ_58 e63) ck_X11_common lk_X11_431 st_X11_common rfl rfl (Nat.le_of_ble_eq_true rfl) ⟨by decide, by decide⟩ ⟨Nat.zero_le _, Nat.zero_le _⟩ dX11_lotDay_63 ?_
    obtain ⟨z66, h⟩ := Sat_ifn h
    refine r_idiv dX11_lotDay_66 z66 ?_
    exact r_ireturn rfl (by rw [← Sat_eq h]; exact ⟨rfl, rfl⟩) dX11_lotDay_67
  have J46 : ∀ (a0_46 : Nat) (l2_46 : Int32) (l3_46 : Int32) (μ_46 : Mm), Sat (f_X11_lotDay_J46 a0_46 l2_46 l3_46 μ_46) (fun x => x = r) → Rn_X11_lotDay G (fun v μ' => v = some (.int r.1) ∧ μ' = r.2) 46 [(0, .ref a0_46), (2, .int l2_46), (3, .int l3_46)] [] μ_46 := by
    intro a0_46 l2_46 l3_46 μ_46 h
    refine r_iload_n dX11_lotDay_46 1 rfl ?_
    refine r_if_eq 57 dX11_lotDay_47 (by decide) (fun c47 => ?_) (fun c47 => ?_)
    · have h := Sat_pos c47 h
      refine r_iload_n dX11_lotDay_57 2 rfl ?_
      exact r_sub [0, 2] rfl (J58 a0_46 l3_46 l3_46 μ_46 h)
    · have h := Sat_neg c47 h
      refine r_aload_n dX11_lotDay_50 0 rfl ?_
      obtain ⟨x51, e51, h⟩ := Sat_bind h
      refine r_getI fk_X11_234 rfl e51 dX11_lotDay_51 ?_
      refine r_goto 58 dX11_lotDay_54 (by decide) ?_
      exact r_sub [0, 2] rfl (J58 a0_46 l3_46 x51 μ_46 h)
  refine r_aload_n dX11_lotDay_0 0 rfl ?_
  refine r_iload_n dX11_lotDay_1 1 rfl ?_
  obtain ⟨x2, e2, h⟩ := Sat_bind h
  refine r_cV (t := 12) [.int l1] [] (m_X11_isFact a0 l1 μ e2) ck_X11_isFact lk_X11_315 in_X11_isFact se_X11_isFact (kd_of e2) ⟨rfl, by decide, by decide⟩ rfl rfl (Nat.le_of_ble_eq_true rfl) ⟨by decide, by decide⟩ ⟨Nat.zero_le _, Nat.zero_le _⟩ dX11_lotDay_2 ?_
  refine r_if_ne 11 dX11_lotDay_5 (by decide) (fun c5 => ?_) (fun c5 => ?_)
  · have h := Sat_neg c5 h
    refine r_iconst (v := 0) dX11_lotDay_11 (by decide) ?_
    refine r_istore_n (lv' := [(3, .int (0 : Int32)), (0, .ref a0), (1, .int l1), (2, .int l2)]) dX11_lotDay_12 rfl (by decide) rfl ?_
    refine r_iconst (v := 0) dX11_lotDay_13 (by decide) ?_
    refine r_istore (lv' := [(4, .int (0 : Int32)), (3, .int (0 : Int32)), (0, .ref a0), (1, .int l1), (2, .int l2)]) dX11_lotDay_14 (by decide) rfl ?_
    refine r_sub (lv' := [(0, .ref a0), (1, .int l1), (2, .int l2), (3, .int (0 : Int32)), (4, .int (0 : Int32))]) [2, 3, 4, 1, 0] rfl ?_
    refine whl_K (s0 := (((0 : Int32), (0 : Int32), μ) : Int32 × Int32 × Mm)) (RR := fun (s16 : Int32 × Int32 × Mm) => Rn_X11_lotDay G (fun v μ' => v = some (.int r.1) ∧ μ' = r.2) 16 [(0, .ref a0), (1, .int l1), (2, .int l2), (3, .int s16.1), (4, .int s16.2.1)] [] s16.2.2) ?_ (Sat_bindK h)
    intro s16 K16 hI16 hX16 h
    refine r_iload dX11_lotDay_16 4 rfl ?_
    refine r_aload_n dX11_lotDay_18 0 rfl ?_
    obtain ⟨x19, e19, h⟩ := Sat_bind h
    refine r_getI fk_X11_234 rfl e19 dX11_lotDay_19 ?_
    refine r_icmp_ge 46 dX11_lotDay_22 (by decide) (fun c22 => ?_) (fun c22 => ?_)
    · have h := Sat_pos c22 h
      have h := hX16 _ (Sat_some h)
      exact r_sub [0, 2, 3] rfl (J46 a0 l2 s16.1 s16.2.2 h)
    · have h := Sat_neg c22 h
      refine r_iload_n dX11_lotDay_25 3 rfl ?_
      refine r_aload_n dX11_lotDay_26 0 rfl ?_
      refine r_aload_n dX11_lotDay_27 0 rfl ?_
      obtain ⟨x28, e28, h⟩ := Sat_bind h
      refine r_getP fk_X11_73 rfl e28 dX11_lotDay_28 ?_
      refine r_iload dX11_lotDay_31 4 rfl ?_
      obtain ⟨x33, e33, h⟩ := Sat_bind h
      refine r_laload e33 dX11_lotDay_33 ?_
      refine r_iload_n dX11_lotDay_34 1 rfl ?_
      obtain ⟨x35, e35, h⟩ := Sat_bind h
      refine r_cV (t := 12) [.long x33, .int l1] [.int s16.1] (m_X11_allDay a0 x33 l1 s16.2.2 e35) ck_X11_allDay lk_X11_434 in_X11_allDay se_X11_allDay (kd_of e35) ⟨rfl, by decide, by decide⟩ rfl rfl (Nat.le_of_ble_eq_true rfl) ⟨by decide, by decide⟩ ⟨Nat.zero_le _, Nat.zero_le _⟩ dX11_lotDay_35 ?_
      refine r_iadd dX11_lotDay_38 ?_
      obtain ⟨v39, e39, h⟩ := Sat_bind h
      refine r_topi (Option.some.inj e39) ?_
      refine r_istore_n (lv' := [(3, .int v39), (0, .ref a0), (1, .int l1), (2, .int l2), (4, .int s16.2.1)]) dX11_lotDay_39 rfl (by decide) rfl ?_
      obtain ⟨v40, e40, h⟩ := Sat_bind h
      refine r_iinc (j := 4) (v := v40) (lv' := [(4, .int v40), (3, .int v39), (0, .ref a0), (1, .int l1), (2, .int l2)]) dX11_lotDay_40 rfl (iinc_v e40 (by decide)) (by decide) rfl ?_
      refine r_goto 16 dX11_lotDay_43 (by decide) ?_
      exact r_sub [2, 3, 4, 1, 0] rfl (hI16 _ (Sat_some h))
  · have h := Sat_pos c5 h
    refine r_bipush (v := -2) dX11_lotDay_8 (by decide) ?_
    exact r_ireturn rfl (by rw [← Sat_eq h]; exact ⟨rfl, rfl⟩) dX11_lotDay_10
theorem dX11_numberOf_0 : decode cX11_numberOf 0 = .ok (.iconst 0, 1) := by decide +kernel
theorem dX11_numberOf_1 : decode cX11_numberOf 1 = .ok (.istore_n 3, 1) := by decide +kernel
theorem dX11_numberOf_2 : decode cX11_numberOf 2 = .ok (.iload_n 3, 1) := by decide +kernel
theorem dX11_numberOf_3 : decode cX11_numberOf 3 = .ok (.aload_n 0, 1) := by decide +kernel
theorem dX11_numberOf_4 : decode cX11_numberOf 4 = .ok (.getfield 234, 3) := by decide +kernel
theorem dX11_numberOf_7 : decode cX11_numberOf 7 = .ok (.if_icmp .ge 22, 3) := by decide +kernel
theorem dX11_numberOf_10 : decode cX11_numberOf 10 = .ok (.aload_n 0, 1) := by decide +kernel
theorem dX11_numberOf_11 : decode cX11_numberOf 11 = .ok (.getfield 73, 3) := by decide +kernel
theorem dX11_numberOf_14 : decode cX11_numberOf 14 = .ok (.iload_n 3, 1) := by decide +kernel
theorem dX11_numberOf_15 : decode cX11_numberOf 15 = .ok (.laload, 1) := by decide +kernel
theorem dX11_numberOf_16 : decode cX11_numberOf 16 = .ok (.lload_n 1, 1) := by decide +kernel
theorem dX11_numberOf_17 : decode cX11_numberOf 17 = .ok (.lcmp, 1) := by decide +kernel
theorem dX11_numberOf_18 : decode cX11_numberOf 18 = .ok (.ifCond .ne 5, 3) := by decide +kernel
theorem dX11_numberOf_21 : decode cX11_numberOf 21 = .ok (.iload_n 3, 1) := by decide +kernel
theorem dX11_numberOf_22 : decode cX11_numberOf 22 = .ok (.ireturn, 1) := by decide +kernel
theorem dX11_numberOf_23 : decode cX11_numberOf 23 = .ok (.iinc 3 1, 3) := by decide +kernel
theorem dX11_numberOf_26 : decode cX11_numberOf 26 = .ok (.goto (-24), 3) := by decide +kernel
theorem dX11_numberOf_29 : decode cX11_numberOf 29 = .ok (.iconst (-1), 1) := by decide +kernel
theorem dX11_numberOf_30 : decode cX11_numberOf 30 = .ok (.ireturn, 1) := by decide +kernel
noncomputable def f_X11_numberOf_L2 (a0 : Nat) (l1 : Int64) (μ : Mm) (s2 : Int32) : Option ((Int32) ⊕ ((Int32) ⊕ (Unit))) :=
  (gf_I 12 32 a0 μ).bind fun x4 => if x4 ≤ s2 then some (.inr (.inr ())) else (gf_P 12 34 a0 μ).bind fun x11 => (ga_L x11 s2 μ).bind fun x15 => if (lg_cmp x15 l1) = 0 then some (.inr (.inl s2)) else (some (s2 + (1 : Int32))).bind fun v23 => some (.inl v23)
noncomputable def f_X11_numberOf (a0 : Nat) (l1 : Int64) (μ : Mm) : Option Int32 :=
  if (mm_K μ a0).1 = 12 then (whl (f_X11_numberOf_L2 a0 l1 μ) (0 : Int32)).bind (sm (fun b2 => some b2) (fun b2 => some (-1 : Int32))) else none
abbrev Rn_X11_numberOf (G : Gv) (Q : Option Value → Mm → Prop) (pc : Nat) (lv : List (Nat × Value)) (st : List Value) (μ : Mm) : Prop := Rn G RX11 cX11_numberOf 4 (some .int) "numberOf" (rmd 0 0 0) (Zm G 0 0 Q) 0 0 pc lv st μ
set_option maxRecDepth 100000 in
set_option maxHeartbeats 4000000 in
theorem m_X11_numberOf {G : Gv} (a0 : Nat) (l1 : Int64) (μ : Mm) {r : Int32} (hx : f_X11_numberOf a0 l1 μ = some r) : Mt G yX11_numberOf cX11_numberOf 4 (some .int) 0 0 0 [.ref a0, .long l1] μ (fun v μ' => v = some (.int r) ∧ μ' = μ) := by
  refine Mt.of (by decide) (Nat.le_of_ble_eq_true rfl) ?_
  show Rn_X11_numberOf G (fun v μ' => v = some (.int r) ∧ μ' = μ) 0 [(0, .ref a0), (1, .long l1)] [] μ
  obtain ⟨_, h⟩ := Sat_ifp (show Sat (f_X11_numberOf a0 l1 μ) (fun x => x = r) from ⟨_, hx, rfl⟩)
  refine r_iconst (v := 0) dX11_numberOf_0 (by decide) ?_
  refine r_istore_n (lv' := [(3, .int (0 : Int32)), (0, .ref a0), (1, .long l1)]) dX11_numberOf_1 rfl (by decide) rfl ?_
  refine r_sub (lv' := [(0, .ref a0), (1, .long l1), (3, .int (0 : Int32))]) [1, 2, 0] rfl ?_
  refine whl_K (s0 := ((0 : Int32) : Int32)) (RR := fun (s2 : Int32) => Rn_X11_numberOf G (fun v μ' => v = some (.int r) ∧ μ' = μ) 2 [(0, .ref a0), (1, .long l1), (3, .int s2)] [] μ) ?_ (Sat_bindK h)
  intro s2 K2 hI2 hX2 h
  refine r_iload_n dX11_numberOf_2 2 rfl ?_
  refine r_aload_n dX11_numberOf_3 0 rfl ?_
  obtain ⟨x4, e4, h⟩ := Sat_bind h
  refine r_getI fk_X11_234 rfl e4 dX11_numberOf_4 ?_
  refine r_icmp_ge 29 dX11_numberOf_7 (by decide) (fun c7 => ?_) (fun c7 => ?_)
  · have h := Sat_pos c7 h
    have h := hX2 _ (Sat_some h)
    refine r_iconst (v := -1) dX11_numberOf_29 (by decide) ?_
    exact r_ireturn rfl (by rw [← Sat_eq h]; exact ⟨rfl, rfl⟩) dX11_numberOf_30
  · have h := Sat_neg c7 h
    refine r_aload_n dX11_numberOf_10 0 rfl ?_
    obtain ⟨x11, e11, h⟩ := Sat_bind h
    refine r_getP fk_X11_73 rfl e11 dX11_numberOf_11 ?_
    refine r_iload_n dX11_numberOf_14 2 rfl ?_
    obtain ⟨x15, e15, h⟩ := Sat_bind h
    refine r_laload e15 dX11_numberOf_15 ?_
    refine r_lload_n dX11_numberOf_16 1 rfl ?_
    refine r_lcmp dX11_numberOf_17 ?_
    refine r_if_ne 23 dX11_numberOf_18 (by decide) (fun c18 => ?_) (fun c18 => ?_)
    · have h := Sat_neg c18 h
      obtain ⟨v23, e23, h⟩ := Sat_bind h
      refine r_iinc (j := 2) (v := v23) (lv' := [(3, .int v23), (0, .ref a0), (1, .long l1)]) dX11_numberOf_23 rfl (iinc_v e23 (by decide)) (by decide) rfl ?_
      refine r_goto 2 dX11_numberOf_26 (by decide) ?_
      exact r_sub [1, 2, 0] rfl (hI2 _ (Sat_some h))
    · have h := Sat_pos c18 h
      have h := hX2 _ (Sat_some h)
      refine r_iload_n dX11_numberOf_21 2 rfl ?_
      exact r_ireturn rfl (by rw [← Sat_eq h]; exact ⟨rfl, rfl⟩) dX11_numberOf_22
theorem dX11_marry_0 : decode cX11_marry 0 = .ok (.aload_n 0, 1) := by decide +kernel
theorem dX11_marry_1 : decode cX11_marry 1 = .ok (.iload_n 1, 1) := by decide +kernel
theorem dX11_marry_2 : decode cX11_marry 2 = .ok (.invokevirtual 309, 3) := by decide +kernel
theorem dX11_marry_5 : decode cX11_marry 5 = .ok (.ifCond .eq 32, 3) := by decide +kernel
theorem dX11_marry_8 : decode cX11_marry 8 = .ok (.aload_n 0, 1) := by decide +kernel
theorem dX11_marry_9 : decode cX11_marry 9 = .ok (.iload_n 2, 1) := by decide +kernel
theorem dX11_marry_10 : decode cX11_marry 10 = .ok (.invokevirtual 309, 3) := by decide +kernel
theorem dX11_marry_13 : decode cX11_marry 13 = .ok (.ifCond .eq 24, 3) := by decide +kernel
theorem dX11_marry_16 : decode cX11_marry 16 = .ok (.iload_n 1, 1) := by decide +kernel
theorem dX11_marry_17 : decode cX11_marry 17 = .ok (.iload_n 2, 1) := by decide +kernel
theorem dX11_marry_18 : decode cX11_marry 18 = .ok (.if_icmp .eq 19, 3) := by decide +kernel
theorem dX11_marry_21 : decode cX11_marry 21 = .ok (.aload_n 0, 1) := by decide +kernel
theorem dX11_marry_22 : decode cX11_marry 22 = .ok (.iload_n 1, 1) := by decide +kernel
theorem dX11_marry_23 : decode cX11_marry 23 = .ok (.invokevirtual 312, 3) := by decide +kernel
theorem dX11_marry_26 : decode cX11_marry 26 = .ok (.ifCond .ne 11, 3) := by decide +kernel
theorem dX11_marry_29 : decode cX11_marry 29 = .ok (.aload_n 0, 1) := by decide +kernel
theorem dX11_marry_30 : decode cX11_marry 30 = .ok (.iload_n 2, 1) := by decide +kernel
theorem dX11_marry_31 : decode cX11_marry 31 = .ok (.invokevirtual 312, 3) := by decide +kernel
theorem dX11_marry_34 : decode cX11_marry 34 = .ok (.ifCond .eq 6, 3) := by decide +kernel
theorem dX11_marry_37 : decode cX11_marry 37 = .ok (.bipush (-2), 2) := by decide +kernel
theorem dX11_marry_39 : decode cX11_marry 39 = .ok (.ireturn, 1) := by decide +kernel
theorem dX11_marry_40 : decode cX11_marry 40 = .ok (.aload_n 0, 1) := by decide +kernel
theorem dX11_marry_41 : decode cX11_marry 41 = .ok (.getfield 73, 3) := by decide +kernel
theorem dX11_marry_44 : decode cX11_marry 44 = .ok (.aload_n 0, 1) := by decide +kernel
theorem dX11_marry_45 : decode cX11_marry 45 = .ok (.getfield 241, 3) := by decide +kernel
theorem dX11_marry_48 : decode cX11_marry 48 = .ok (.laload, 1) := by decide +kernel
theorem dX11_marry_49 : decode cX11_marry 49 = .ok (.lstore_n 3, 1) := by decide +kernel
theorem dX11_marry_50 : decode cX11_marry 50 = .ok (.lload_n 3, 1) := by decide +kernel
theorem dX11_marry_51 : decode cX11_marry 51 = .ok (.iconst 4, 1) := by decide +kernel
theorem dX11_marry_52 : decode cX11_marry 52 = .ok (.iload_n 1, 1) := by decide +kernel
theorem dX11_marry_53 : decode cX11_marry 53 = .ok (.imul, 1) := by decide +kernel
theorem dX11_marry_54 : decode cX11_marry 54 = .ok (.lshr, 1) := by decide +kernel
theorem dX11_marry_55 : decode cX11_marry 55 = .ok (.ldc2_w 318, 3) := by decide +kernel
theorem dX11_marry_58 : decode cX11_marry 58 = .ok (.land, 1) := by decide +kernel
theorem dX11_marry_59 : decode cX11_marry 59 = .ok (.lstore 5, 2) := by decide +kernel
theorem dX11_marry_61 : decode cX11_marry 61 = .ok (.lload_n 3, 1) := by decide +kernel
theorem dX11_marry_62 : decode cX11_marry 62 = .ok (.iconst 4, 1) := by decide +kernel
theorem dX11_marry_63 : decode cX11_marry 63 = .ok (.iload_n 2, 1) := by decide +kernel
theorem dX11_marry_64 : decode cX11_marry 64 = .ok (.imul, 1) := by decide +kernel
theorem dX11_marry_65 : decode cX11_marry 65 = .ok (.lshr, 1) := by decide +kernel
theorem dX11_marry_66 : decode cX11_marry 66 = .ok (.ldc2_w 318, 3) := by decide +kernel
theorem dX11_marry_69 : decode cX11_marry 69 = .ok (.land, 1) := by decide +kernel
theorem dX11_marry_70 : decode cX11_marry 70 = .ok (.lstore 7, 2) := by decide +kernel
theorem dX11_marry_72 : decode cX11_marry 72 = .ok (.aload_n 0, 1) := by decide +kernel
theorem dX11_marry_73 : decode cX11_marry 73 = .ok (.lload_n 3, 1) := by decide +kernel
theorem dX11_marry_74 : decode cX11_marry 74 = .ok (.ldc2_w 318, 3) := by decide +kernel
theorem dX11_marry_77 : decode cX11_marry 77 = .ok (.iconst 4, 1) := by decide +kernel
theorem dX11_marry_78 : decode cX11_marry 78 = .ok (.iload_n 1, 1) := by decide +kernel
theorem dX11_marry_79 : decode cX11_marry 79 = .ok (.imul, 1) := by decide +kernel
theorem dX11_marry_80 : decode cX11_marry 80 = .ok (.lshl, 1) := by decide +kernel
theorem dX11_marry_81 : decode cX11_marry 81 = .ok (.ldc2_w 429, 3) := by decide +kernel
theorem dX11_marry_84 : decode cX11_marry 84 = .ok (.lxor, 1) := by decide +kernel
theorem dX11_marry_85 : decode cX11_marry 85 = .ok (.land, 1) := by decide +kernel
theorem dX11_marry_86 : decode cX11_marry 86 = .ok (.ldc2_w 318, 3) := by decide +kernel
theorem dX11_marry_89 : decode cX11_marry 89 = .ok (.iconst 4, 1) := by decide +kernel
theorem dX11_marry_90 : decode cX11_marry 90 = .ok (.iload_n 2, 1) := by decide +kernel
theorem dX11_marry_91 : decode cX11_marry 91 = .ok (.imul, 1) := by decide +kernel
theorem dX11_marry_92 : decode cX11_marry 92 = .ok (.lshl, 1) := by decide +kernel
theorem dX11_marry_93 : decode cX11_marry 93 = .ok (.ldc2_w 429, 3) := by decide +kernel
theorem dX11_marry_96 : decode cX11_marry 96 = .ok (.lxor, 1) := by decide +kernel
theorem dX11_marry_97 : decode cX11_marry 97 = .ok (.land, 1) := by decide +kernel
theorem dX11_marry_98 : decode cX11_marry 98 = .ok (.lload 7, 2) := by decide +kernel
theorem dX11_marry_100 : decode cX11_marry 100 = .ok (.iconst 4, 1) := by decide +kernel
theorem dX11_marry_101 : decode cX11_marry 101 = .ok (.iload_n 1, 1) := by decide +kernel
theorem dX11_marry_102 : decode cX11_marry 102 = .ok (.imul, 1) := by decide +kernel
theorem dX11_marry_103 : decode cX11_marry 103 = .ok (.lshl, 1) := by decide +kernel
theorem dX11_marry_104 : decode cX11_marry 104 = .ok (.lor, 1) := by decide +kernel
theorem dX11_marry_105 : decode cX11_marry 105 = .ok (.lload 5, 2) := by decide +kernel
theorem dX11_marry_107 : decode cX11_marry 107 = .ok (.iconst 4, 1) := by decide +kernel
theorem dX11_marry_108 : decode cX11_marry 108 = .ok (.iload_n 2, 1) := by decide +kernel
theorem dX11_marry_109 : decode cX11_marry 109 = .ok (.imul, 1) := by decide +kernel
theorem dX11_marry_110 : decode cX11_marry 110 = .ok (.lshl, 1) := by decide +kernel
theorem dX11_marry_111 : decode cX11_marry 111 = .ok (.lor, 1) := by decide +kernel
theorem dX11_marry_112 : decode cX11_marry 112 = .ok (.invokevirtual 324, 3) := by decide +kernel
theorem dX11_marry_115 : decode cX11_marry 115 = .ok (.ireturn, 1) := by decide +kernel
noncomputable def f_X11_marry (a0 : Nat) (l1 : Int32) (l2 : Int32) (μ : Mm) : Option Int32 :=
  if (mm_K μ a0).1 = 12 then (f_X11_isPerson a0 l1 μ).bind fun x2 => if x2 = 0 then some (-2 : Int32) else (f_X11_isPerson a0 l2 μ).bind fun x10 => if x10 = 0 then some (-2 : Int32) else if l1 = l2 then some (-2 : Int32) else (f_X11_isAlone a0 l1 μ).bind fun x23 => if x23 = 0 then (f_X11_isAlone a0 l2 μ).bind fun x31 => if x31 = 0 then (gf_P 12 34 a0 μ).bind fun x41 => (gf_I 12 33 a0 μ).bind fun x45 => (ga_L x41 x45 μ).bind fun x48 => (some ((x48 >>> (((4 : Int32) * l1).toInt64 &&& 63)) &&& (15 : Int64))).bind fun v59 => (some ((x48 >>> (((4 : Int32) * l2).toInt64 &&& 63)) &&& (15 : Int64))).bind fun v70 => (f_X11_numberOf a0 ((((x48 &&& (((15 : Int64) <<< (((4 : Int32) * l1).toInt64 &&& 63)) ^^^ (-1 : Int64))) &&& (((15 : Int64) <<< (((4 : Int32) * l2).toInt64 &&& 63)) ^^^ (-1 : Int64))) ||| (v70 <<< (((4 : Int32) * l1).toInt64 &&& 63))) ||| (v59 <<< (((4 : Int32) * l2).toInt64 &&& 63))) μ).bind fun x112 => some x112 else some (-2 : Int32) else some (-2 : Int32) else none
abbrev Rn_X11_marry (G : Gv) (Q : Option Value → Mm → Prop) (pc : Nat) (lv : List (Nat × Value)) (st : List Value) (μ : Mm) : Prop := Rn G RX11 cX11_marry 9 (some .int) "marry" (rmd 2 0 0) (Zm G 0 0 Q) 0 0 pc lv st μ
set_option maxRecDepth 100000 in
set_option maxHeartbeats 4000000 in
theorem m_X11_marry {G : Gv} (a0 : Nat) (l1 : Int32) (l2 : Int32) (μ : Mm) {r : Int32} (hx : f_X11_marry a0 l1 l2 μ = some r) : Mt G yX11_marry cX11_marry 9 (some .int) 2 0 0 [.ref a0, .int l1, .int l2] μ (fun v μ' => v = some (.int r) ∧ μ' = μ) := by
  refine Mt.of (by decide) (Nat.le_of_ble_eq_true rfl) ?_
  show Rn_X11_marry G (fun v μ' => v = some (.int r) ∧ μ' = μ) 0 [(0, .ref a0), (1, .int l1), (2, .int l2)] [] μ
  obtain ⟨_, h⟩ := Sat_ifp (show Sat (f_X11_marry a0 l1 l2 μ) (fun x => x = r) from ⟨_, hx, rfl⟩)
  refine r_aload_n dX11_marry_0 0 rfl ?_
  refine r_iload_n dX11_marry_1 1 rfl ?_
  obtain ⟨x2, e2, h⟩ := Sat_bind h
  refine r_cV (t := 12) [.int l1] [] (m_X11_isPerson a0 l1 μ e2) ck_X11_isPerson lk_X11_309 in_X11_isPerson se_X11_isPerson (kd_of e2) ⟨rfl, by decide, by decide⟩ rfl rfl (Nat.le_of_ble_eq_true rfl) ⟨by decide, by decide⟩ ⟨Nat.zero_le _, Nat.zero_le _⟩ dX11_marry_2 ?_
  refine r_if_eq 37 dX11_marry_5 (by decide) (fun c5 => ?_) (fun c5 => ?_)
  · have h := Sat_pos c5 h
    refine r_bipush (v := -2) dX11_marry_37 (by decide) ?_
    exact r_ireturn rfl (by rw [← Sat_eq h]; exact ⟨rfl, rfl⟩) dX11_marry_39
  · have h := Sat_neg c5 h
    refine r_aload_n dX11_marry_8 0 rfl ?_
    refine r_iload_n dX11_marry_9 2 rfl ?_
    obtain ⟨x10, e10, h⟩ := Sat_bind h
    refine r_cV (t := 12) [.int l2] [] (m_X11_isPerson a0 l2 μ e10) ck_X11_isPerson lk_X11_309 in_X11_isPerson se_X11_isPerson (kd_of e10) ⟨rfl, by decide, by decide⟩ rfl rfl (Nat.le_of_ble_eq_true rfl) ⟨by decide, by decide⟩ ⟨Nat.zero_le _, Nat.zero_le _⟩ dX11_marry_10 ?_
    refine r_if_eq 37 dX11_marry_13 (by decide) (fun c13 => ?_) (fun c13 => ?_)
    · have h := Sat_pos c13 h
      refine r_bipush (v := -2) dX11_marry_37 (by decide) ?_
      exact r_ireturn rfl (by rw [← Sat_eq h]; exact ⟨rfl, rfl⟩) dX11_marry_39
    · have h := Sat_neg c13 h
      refine r_iload_n dX11_marry_16 1 rfl ?_
      refine r_iload_n dX11_marry_17 2 rfl ?_
      refine r_icmp_eq 37 dX11_marry_18 (by decide) (fun c18 => ?_) (fun c18 => ?_)
      · have h := Sat_pos c18 h
        refine r_bipush (v := -2) dX11_marry_37 (by decide) ?_
        exact r_ireturn rfl (by rw [← Sat_eq h]; exact ⟨rfl, rfl⟩) dX11_marry_39
      · have h := Sat_neg c18 h
        refine r_aload_n dX11_marry_21 0 rfl ?_
        refine r_iload_n dX11_marry_22 1 rfl ?_
        obtain ⟨x23, e23, h⟩ := Sat_bind h
        refine r_cV (t := 12) [.int l1] [] (m_X11_isAlone a0 l1 μ e23) ck_X11_isAlone lk_X11_312 in_X11_isAlone se_X11_isAlone (kd_of e23) ⟨rfl, by decide, by decide⟩ rfl rfl (Nat.le_of_ble_eq_true rfl) ⟨by decide, by decide⟩ ⟨Nat.zero_le _, Nat.zero_le _⟩ dX11_marry_23 ?_
        refine r_if_ne 37 dX11_marry_26 (by decide) (fun c26 => ?_) (fun c26 => ?_)
        · have h := Sat_neg c26 h
          refine r_bipush (v := -2) dX11_marry_37 (by decide) ?_
          exact r_ireturn rfl (by rw [← Sat_eq h]; exact ⟨rfl, rfl⟩) dX11_marry_39
        · have h := Sat_pos c26 h
          refine r_aload_n dX11_marry_29 0 rfl ?_
          refine r_iload_n dX11_marry_30 2 rfl ?_
          obtain ⟨x31, e31, h⟩ := Sat_bind h
          refine r_cV (t := 12) [.int l2] [] (m_X11_isAlone a0 l2 μ e31) ck_X11_isAlone lk_X11_312 in_X11_isAlone se_X11_isAlone (kd_of e31) ⟨rfl, by decide, by decide⟩ rfl rfl (Nat.le_of_ble_eq_true rfl) ⟨by decide, by decide⟩ ⟨Nat.zero_le _, Nat.zero_le _⟩ dX11_marry_31 ?_
          refine r_if_eq 40 dX11_marry_34 (by decide) (fun c34 => ?_) (fun c34 => ?_)
          · have h := Sat_pos c34 h
            refine r_aload_n dX11_marry_40 0 rfl ?_
            obtain ⟨x41, e41, h⟩ := Sat_bind h
            refine r_getP fk_X11_73 rfl e41 dX11_marry_41 ?_
            refine r_aload_n dX11_marry_44 0 rfl ?_
            obtain ⟨x45, e45, h⟩ := Sat_bind h
            refine r_getI fk_X11_241 rfl e45 dX11_marry_45 ?_
            obtain ⟨x48, e48, h⟩ := Sat_bind h
            refine r_laload e48 dX11_marry_48 ?_
            refine r_lstore_n (lv' := [(3, .long x48), (0, .ref a0), (1, .int l1), (2, .int l2)]) dX11_marry_49 rfl (by decide) rfl ?_
            refine r_lload_n dX11_marry_50 0 rfl ?_
            refine r_iconst (v := 4) dX11_marry_51 (by decide) ?_
            refine r_iload_n dX11_marry_52 2 rfl ?_
            refine r_imul dX11_marry_53 ?_
            refine r_lshr dX11_marry_54 ?_
            refine r_ldc2 (v := 15) dX11_marry_55 kc_X11_318 ?_
            refine r_land dX11_marry_58 ?_
            obtain ⟨v59, e59, h⟩ := Sat_bind h
            refine r_topl (Option.some.inj e59) ?_
            refine r_lstore (lv' := [(5, .long v59), (3, .long x48), (0, .ref a0), (1, .int l1), (2, .int l2)]) dX11_marry_59 (by decide) rfl ?_
            refine r_lload_n dX11_marry_61 1 rfl ?_
            refine r_iconst (v := 4) dX11_marry_62 (by decide) ?_
            refine r_iload_n dX11_marry_63 4 rfl ?_
            refine r_imul dX11_marry_64 ?_
            refine r_lshr dX11_marry_65 ?_
            refine r_ldc2 (v := 15) dX11_marry_66 kc_X11_318 ?_
            refine r_land dX11_marry_69 ?_
            obtain ⟨v70, e70, h⟩ := Sat_bind h
            refine r_topl (Option.some.inj e70) ?_
            refine r_lstore (lv' := [(7, .long v70), (5, .long v59), (3, .long x48), (0, .ref a0), (1, .int l1), (2, .int l2)]) dX11_marry_70 (by decide) rfl ?_
            refine r_aload_n dX11_marry_72 3 rfl ?_
            refine r_lload_n dX11_marry_73 2 rfl ?_
            refine r_ldc2 (v := 15) dX11_marry_74 kc_X11_318 ?_
            refine r_iconst (v := 4) dX11_marry_77 (by decide) ?_
            refine r_iload_n dX11_marry_78 4 rfl ?_
            refine r_imul dX11_marry_79 ?_
            refine r_lshl dX11_marry_80 ?_
            refine r_ldc2 (v := -1) dX11_marry_81 kc_X11_429 ?_
            refine r_lxor dX11_marry_84 ?_
            refine r_land dX11_marry_85 ?_
            refine r_ldc2 (v := 15) dX11_marry_86 kc_X11_318 ?_
            refine r_iconst (v := 4) dX11_marry_89 (by decide) ?_
            refine r_iload_n dX11_marry_90 5 rfl ?_
            refine r_imul dX11_marry_91 ?_
            refine r_lshl dX11_marry_92 ?_
            refine r_ldc2 (v := -1) dX11_marry_93 kc_X11_429 ?_
            refine r_lxor dX11_marry_96 ?_
            refine r_land dX11_marry_97 ?_
            refine r_lload dX11_marry_98 0 rfl ?_
            refine r_iconst (v := 4) dX11_marry_100 (by decide) ?_
            refine r_iload_n dX11_marry_101 4 rfl ?_
            refine r_imul dX11_marry_102 ?_
            refine r_lshl dX11_marry_103 ?_
            refine r_lor dX11_marry_104 ?_
            refine r_lload dX11_marry_105 1 rfl ?_
            refine r_iconst (v := 4) dX11_marry_107 (by decide) ?_
            refine r_iload_n dX11_marry_108 5 rfl ?_
            refine r_imul dX11_marry_109 ?_
            refine r_lshl dX11_marry_110 ?_
            refine r_lor dX11_marry_111 ?_
            obtain ⟨x112, e112, h⟩ := Sat_bind h
            refine r_cV (t := 12) [.long ((((x48 &&& (((15 : Int64) <<< (((4 : Int32) * l1).toInt64 &&& 63)) ^^^ (-1 : Int64))) &&& (((15 : Int64) <<< (((4 : Int32) * l2).toInt64 &&& 63)) ^^^ (-1 : Int64))) ||| (v70 <<< (((4 : Int32) * l1).toInt64 &&& 63))) ||| (v59 <<< (((4 : Int32) * l2).toInt64 &&& 63)))] [] (m_X11_numberOf a0 ((((x48 &&& (((15 : Int64) <<< (((4 : Int32) * l1).toInt64 &&& 63)) ^^^ (-1 : Int64))) &&& (((15 : Int64) <<< (((4 : Int32) * l2).toInt64 &&& 63)) ^^^ (-1 : Int64))) ||| (v70 <<< (((4 : Int32) * l1).toInt64 &&& 63))) ||| (v59 <<< (((4 : Int32) * l2).toInt64 &&& 63))) μ e112) ck_X11_numberOf lk_X11_324 in_X11_numberOf se_X11_numberOf (kd_of e112) ⟨rfl, by decide, by decide⟩ rfl rfl (Nat.le_of_ble_eq_true rfl) ⟨by decide, by decide⟩ ⟨Nat.zero_le _, Nat.zero_le _⟩ dX11_marry_112 ?_
            exact r_ireturn rfl (by rw [← Sat_eq h]; exact ⟨rfl, rfl⟩) dX11_marry_115
          · have h := Sat_neg c34 h
            refine r_bipush (v := -2) dX11_marry_37 (by decide) ?_
            exact r_ireturn rfl (by rw [← Sat_eq h]; exact ⟨rfl, rfl⟩) dX11_marry_39
theorem dX11_metBy_0 : decode cX11_metBy 0 = .ok (.iconst 0, 1) := by decide +kernel
theorem dX11_metBy_1 : decode cX11_metBy 1 = .ok (.istore_n 2, 1) := by decide +kernel
theorem dX11_metBy_2 : decode cX11_metBy 2 = .ok (.aload_n 0, 1) := by decide +kernel
theorem dX11_metBy_3 : decode cX11_metBy 3 = .ok (.iload_n 1, 1) := by decide +kernel
theorem dX11_metBy_4 : decode cX11_metBy 4 = .ok (.putfield 337, 3) := by decide +kernel
theorem dX11_metBy_7 : decode cX11_metBy 7 = .ok (.aload_n 0, 1) := by decide +kernel
theorem dX11_metBy_8 : decode cX11_metBy 8 = .ok (.invokevirtual 353, 3) := by decide +kernel
theorem dX11_metBy_11 : decode cX11_metBy 11 = .ok (.iconst 0, 1) := by decide +kernel
theorem dX11_metBy_12 : decode cX11_metBy 12 = .ok (.istore_n 3, 1) := by decide +kernel
theorem dX11_metBy_13 : decode cX11_metBy 13 = .ok (.iload_n 3, 1) := by decide +kernel
theorem dX11_metBy_14 : decode cX11_metBy 14 = .ok (.bipush 28, 2) := by decide +kernel
theorem dX11_metBy_16 : decode cX11_metBy 16 = .ok (.if_icmp .ge 112, 3) := by decide +kernel
theorem dX11_metBy_19 : decode cX11_metBy 19 = .ok (.aload_n 0, 1) := by decide +kernel
theorem dX11_metBy_20 : decode cX11_metBy 20 = .ok (.aload_n 0, 1) := by decide +kernel
theorem dX11_metBy_21 : decode cX11_metBy 21 = .ok (.getfield 73, 3) := by decide +kernel
theorem dX11_metBy_24 : decode cX11_metBy 24 = .ok (.aload_n 0, 1) := by decide +kernel
theorem dX11_metBy_25 : decode cX11_metBy 25 = .ok (.getfield 241, 3) := by decide +kernel
theorem dX11_metBy_28 : decode cX11_metBy 28 = .ok (.laload, 1) := by decide +kernel
theorem dX11_metBy_29 : decode cX11_metBy 29 = .ok (.iload_n 3, 1) := by decide +kernel
theorem dX11_metBy_30 : decode cX11_metBy 30 = .ok (.bipush 7, 2) := by decide +kernel
theorem dX11_metBy_32 : decode cX11_metBy 32 = .ok (.invokevirtual 356, 3) := by decide +kernel
theorem dX11_metBy_35 : decode cX11_metBy 35 = .ok (.aload_n 0, 1) := by decide +kernel
theorem dX11_metBy_36 : decode cX11_metBy 36 = .ok (.aload_n 0, 1) := by decide +kernel
theorem dX11_metBy_37 : decode cX11_metBy 37 = .ok (.getfield 73, 3) := by decide +kernel
theorem dX11_metBy_40 : decode cX11_metBy 40 = .ok (.aload_n 0, 1) := by decide +kernel
theorem dX11_metBy_41 : decode cX11_metBy 41 = .ok (.getfield 241, 3) := by decide +kernel
theorem dX11_metBy_44 : decode cX11_metBy 44 = .ok (.laload, 1) := by decide +kernel
theorem dX11_metBy_45 : decode cX11_metBy 45 = .ok (.iload_n 3, 1) := by decide +kernel
theorem dX11_metBy_46 : decode cX11_metBy 46 = .ok (.bipush 7, 2) := by decide +kernel
theorem dX11_metBy_48 : decode cX11_metBy 48 = .ok (.invokevirtual 360, 3) := by decide +kernel
theorem dX11_metBy_51 : decode cX11_metBy 51 = .ok (.iconst 0, 1) := by decide +kernel
theorem dX11_metBy_52 : decode cX11_metBy 52 = .ok (.istore 4, 2) := by decide +kernel
theorem dX11_metBy_54 : decode cX11_metBy 54 = .ok (.iload 4, 2) := by decide +kernel
theorem dX11_metBy_56 : decode cX11_metBy 56 = .ok (.aload_n 0, 1) := by decide +kernel
theorem dX11_metBy_57 : decode cX11_metBy 57 = .ok (.getfield 17, 3) := by decide +kernel
theorem dX11_metBy_60 : decode cX11_metBy 60 = .ok (.bipush 9, 2) := by decide +kernel
theorem dX11_metBy_62 : decode cX11_metBy 62 = .ok (.iaload, 1) := by decide +kernel
theorem dX11_metBy_63 : decode cX11_metBy 63 = .ok (.if_icmp .ge 59, 3) := by decide +kernel
theorem dX11_metBy_66 : decode cX11_metBy 66 = .ok (.aload_n 0, 1) := by decide +kernel
theorem dX11_metBy_67 : decode cX11_metBy 67 = .ok (.getfield 64, 3) := by decide +kernel
theorem dX11_metBy_70 : decode cX11_metBy 70 = .ok (.iload 4, 2) := by decide +kernel
theorem dX11_metBy_72 : decode cX11_metBy 72 = .ok (.iaload, 1) := by decide +kernel
theorem dX11_metBy_73 : decode cX11_metBy 73 = .ok (.iload_n 3, 1) := by decide +kernel
theorem dX11_metBy_74 : decode cX11_metBy 74 = .ok (.if_icmp .ne 42, 3) := by decide +kernel
theorem dX11_metBy_77 : decode cX11_metBy 77 = .ok (.aload_n 0, 1) := by decide +kernel
theorem dX11_metBy_78 : decode cX11_metBy 78 = .ok (.getfield 76, 3) := by decide +kernel
theorem dX11_metBy_81 : decode cX11_metBy 81 = .ok (.aload_n 0, 1) := by decide +kernel
theorem dX11_metBy_82 : decode cX11_metBy 82 = .ok (.getfield 58, 3) := by decide +kernel
theorem dX11_metBy_85 : decode cX11_metBy 85 = .ok (.iload 4, 2) := by decide +kernel
theorem dX11_metBy_87 : decode cX11_metBy 87 = .ok (.iaload, 1) := by decide +kernel
theorem dX11_metBy_88 : decode cX11_metBy 88 = .ok (.iaload, 1) := by decide +kernel
theorem dX11_metBy_89 : decode cX11_metBy 89 = .ok (.aload_n 0, 1) := by decide +kernel
theorem dX11_metBy_90 : decode cX11_metBy 90 = .ok (.getfield 61, 3) := by decide +kernel
theorem dX11_metBy_93 : decode cX11_metBy 93 = .ok (.iload 4, 2) := by decide +kernel
theorem dX11_metBy_95 : decode cX11_metBy 95 = .ok (.iaload, 1) := by decide +kernel
theorem dX11_metBy_96 : decode cX11_metBy 96 = .ok (.ishr, 1) := by decide +kernel
theorem dX11_metBy_97 : decode cX11_metBy 97 = .ok (.iconst 1, 1) := by decide +kernel
theorem dX11_metBy_98 : decode cX11_metBy 98 = .ok (.iand, 1) := by decide +kernel
theorem dX11_metBy_99 : decode cX11_metBy 99 = .ok (.aload_n 0, 1) := by decide +kernel
theorem dX11_metBy_100 : decode cX11_metBy 100 = .ok (.getfield 67, 3) := by decide +kernel
theorem dX11_metBy_103 : decode cX11_metBy 103 = .ok (.iload 4, 2) := by decide +kernel
theorem dX11_metBy_105 : decode cX11_metBy 105 = .ok (.iaload, 1) := by decide +kernel
theorem dX11_metBy_106 : decode cX11_metBy 106 = .ok (.if_icmp .eq 10, 3) := by decide +kernel
theorem dX11_metBy_109 : decode cX11_metBy 109 = .ok (.iload_n 2, 1) := by decide +kernel
theorem dX11_metBy_110 : decode cX11_metBy 110 = .ok (.iconst 1, 1) := by decide +kernel
theorem dX11_metBy_111 : decode cX11_metBy 111 = .ok (.iload 4, 2) := by decide +kernel
theorem dX11_metBy_113 : decode cX11_metBy 113 = .ok (.ishl, 1) := by decide +kernel
theorem dX11_metBy_114 : decode cX11_metBy 114 = .ok (.ior, 1) := by decide +kernel
theorem dX11_metBy_115 : decode cX11_metBy 115 = .ok (.istore_n 2, 1) := by decide +kernel
theorem dX11_metBy_116 : decode cX11_metBy 116 = .ok (.iinc 4 1, 3) := by decide +kernel
theorem dX11_metBy_119 : decode cX11_metBy 119 = .ok (.goto (-65), 3) := by decide +kernel
theorem dX11_metBy_122 : decode cX11_metBy 122 = .ok (.iinc 3 1, 3) := by decide +kernel
theorem dX11_metBy_125 : decode cX11_metBy 125 = .ok (.goto (-112), 3) := by decide +kernel
theorem dX11_metBy_128 : decode cX11_metBy 128 = .ok (.aload_n 0, 1) := by decide +kernel
theorem dX11_metBy_129 : decode cX11_metBy 129 = .ok (.iconst 0, 1) := by decide +kernel
theorem dX11_metBy_130 : decode cX11_metBy 130 = .ok (.putfield 337, 3) := by decide +kernel
theorem dX11_metBy_133 : decode cX11_metBy 133 = .ok (.iload_n 2, 1) := by decide +kernel
theorem dX11_metBy_134 : decode cX11_metBy 134 = .ok (.ireturn, 1) := by decide +kernel
noncomputable def f_X11_metBy_J128 (a0 : Nat) (l2 : Int32) (μ : Mm) : Option (Int32 × Mm) :=
  (pf_I 12 37 a0 (0 : Int32) μ).bind fun μ130 => some (l2, μ130)
noncomputable def f_X11_metBy_J122 (a0 : Nat) (l2 : Int32) (l3 : Int32) (μ : Mm) : Option ((Int32 × Int32 × Mm) ⊕ (Int32 × Mm)) :=
  (some (l3 + (1 : Int32))).bind fun v122 => some (.inl (l2, v122, μ))
noncomputable def f_X11_metBy_J116 (a0 : Nat) (l2 : Int32) (l3 : Int32) (l4 : Int32) (μ : Mm) : Option ((Int32 × Int32) ⊕ (Int32)) :=
  (some (l4 + (1 : Int32))).bind fun v116 => some (.inl (l2, v116))
noncomputable def f_X11_metBy_L54 (a0 : Nat) (l3 : Int32) (μ : Mm) (s54 : Int32 × Int32) : Option ((Int32 × Int32) ⊕ (Int32)) :=
  (gf_P 12 12 a0 μ).bind fun x57 => (ga_I x57 (9 : Int32) μ).bind fun x62 => if x62 ≤ s54.2 then some (.inr s54.1) else (gf_P 12 27 a0 μ).bind fun x67 => (ga_I x67 s54.2 μ).bind fun x72 => if x72 = l3 then (gf_P 12 35 a0 μ).bind fun x78 => (gf_P 12 25 a0 μ).bind fun x82 => (ga_I x82 s54.2 μ).bind fun x87 => (ga_I x78 x87 μ).bind fun x88 => (gf_P 12 26 a0 μ).bind fun x90 => (ga_I x90 s54.2 μ).bind fun x95 => (gf_P 12 28 a0 μ).bind fun x100 => (ga_I x100 s54.2 μ).bind fun x105 => if ((x88 >>> (x95 &&& 31)) &&& (1 : Int32)) = x105 then f_X11_metBy_J116 a0 s54.1 l3 s54.2 μ else (some (s54.1 ||| ((1 : Int32) <<< (s54.2 &&& 31)))).bind fun v115 => f_X11_metBy_J116 a0 v115 l3 s54.2 μ else f_X11_metBy_J116 a0 s54.1 l3 s54.2 μ
noncomputable def f_X11_metBy_L13 (a0 : Nat) (s13 : Int32 × Int32 × Mm) : Option ((Int32 × Int32 × Mm) ⊕ (Int32 × Mm)) :=
  if (28 : Int32) ≤ s13.2.1 then some (.inr (s13.1, s13.2.2)) else (gf_P 12 34 a0 s13.2.2).bind fun x21 => (gf_I 12 33 a0 s13.2.2).bind fun x25 => (ga_L x21 x25 s13.2.2).bind fun x28 => (f_X11_byDay a0 x28 s13.2.1 (7 : Int32) s13.2.2).bind fun x32 => (gf_P 12 34 a0 x32).bind fun x37 => (gf_I 12 33 a0 x32).bind fun x41 => (ga_L x37 x41 x32).bind fun x44 => (f_X11_byNight a0 x44 s13.2.1 (7 : Int32) x32).bind fun x48 => (whl (f_X11_metBy_L54 a0 s13.2.1 x48) (s13.1, (0 : Int32))).bind (fun b54 => f_X11_metBy_J122 a0 b54 s13.2.1 x48)
noncomputable def f_X11_metBy (a0 : Nat) (l1 : Int32) (μ : Mm) : Option (Int32 × Mm) :=
  if (mm_K μ a0).1 = 12 then (pf_I 12 37 a0 l1 μ).bind fun μ4 => (f_X11_forget a0 μ4).bind fun x8 => (whl (f_X11_metBy_L13 a0) ((0 : Int32), (0 : Int32), x8)).bind (fun b13 => f_X11_metBy_J128 a0 b13.1 b13.2) else none
abbrev Rn_X11_metBy (G : Gv) (Q : Option Value → Mm → Prop) (pc : Nat) (lv : List (Nat × Value)) (st : List Value) (μ : Mm) : Prop := Rn G RX11 cX11_metBy 5 (some .int) "metBy" (rmd 3 0 0) (Zm G 0 0 Q) 0 0 pc lv st μ
set_option maxRecDepth 100000 in
set_option maxHeartbeats 4000000 in
theorem m_X11_metBy {G : Gv} (a0 : Nat) (l1 : Int32) (μ : Mm) {r : (Int32 × Mm)} (hx : f_X11_metBy a0 l1 μ = some r) : Mt G yX11_metBy cX11_metBy 5 (some .int) 3 0 0 [.ref a0, .int l1] μ (fun v μ' => v = some (.int r.1) ∧ μ' = r.2) := by
  refine Mt.of (by decide) (Nat.le_of_ble_eq_true rfl) ?_
  show Rn_X11_metBy G (fun v μ' => v = some (.int r.1) ∧ μ' = r.2) 0 [(0, .ref a0), (1, .int l1)] [] μ
  obtain ⟨_, h⟩ := Sat_ifp (show Sat (f_X11_metBy a0 l1 μ) (fun x => x = r) from ⟨_, hx, rfl⟩)
  have J128 : ∀ (a0_128 : Nat) (l2_128 : Int32) (μ_128 : Mm), Sat (f_X11_metBy_J128 a0_128 l2_128 μ_128) (fun x => x = r) → Rn_X11_metBy G (fun v μ' => v = some (.int r.1) ∧ μ' = r.2) 128 [(0, .ref a0_128), (2, .int l2_128)] [] μ_128 := by
    intro a0_128 l2_128 μ_128 h
    refine r_aload_n dX11_metBy_128 0 rfl ?_
    refine r_iconst (v := 0) dX11_metBy_129 (by decide) ?_
    obtain ⟨μ130, e130, h⟩ := Sat_bind h
    refine r_putI fk_X11_337 rfl rfl e130 dX11_metBy_130 ?_
    refine r_iload_n dX11_metBy_133 1 rfl ?_
    exact r_ireturn rfl (by rw [← Sat_eq h]; exact ⟨rfl, rfl⟩) dX11_metBy_134
  refine r_iconst (v := 0) dX11_metBy_0 (by decide) ?_
  refine r_istore_n (lv' := [(2, .int (0 : Int32)), (0, .ref a0), (1, .int l1)]) dX11_metBy_1 rfl (by decide) rfl ?_
  refine r_aload_n dX11_metBy_2 1 rfl ?_
  refine r_iload_n dX11_metBy_3 2 rfl ?_
  obtain ⟨μ4, e4, h⟩ := Sat_bind h
  refine r_putI fk_X11_337 rfl rfl e4 dX11_metBy_4 ?_
  refine r_aload_n dX11_metBy_7 1 rfl ?_
  obtain ⟨x8, e8, h⟩ := Sat_bind h
  refine r_cV (t := 12) [] [] (m_X11_forget a0 μ4 e8) ck_X11_forget lk_X11_353 in_X11_forget se_X11_forget (kd_of e8) ⟨rfl, by decide, by decide⟩ rfl rfl (Nat.le_of_ble_eq_true rfl) ⟨by decide, by decide⟩ ⟨Nat.zero_le _, Nat.zero_le _⟩ dX11_metBy_8 ?_
  refine r_iconst (v := 0) dX11_metBy_11 (by decide) ?_
  refine r_istore_n (lv' := [(3, .int (0 : Int32)), (2, .int (0 : Int32)), (0, .ref a0), (1, .int l1)]) dX11_metBy_12 rfl (by decide) rfl ?_
  refine r_sub (lv' := [(0, .ref a0), (2, .int (0 : Int32)), (3, .int (0 : Int32))]) [2, 1, 0] rfl ?_
  refine whl_K (s0 := (((0 : Int32), (0 : Int32), x8) : Int32 × Int32 × Mm)) (RR := fun (s13 : Int32 × Int32 × Mm) => Rn_X11_metBy G (fun v μ' => v = some (.int r.1) ∧ μ' = r.2) 13 [(0, .ref a0), (2, .int s13.1), (3, .int s13.2.1)] [] s13.2.2) ?_ (Sat_bindK h)
  intro s13 K13 hI13 hX13 h
  have J122 : ∀ (l2_122 : Int32) (l3_122 : Int32) (μ_122 : Mm), Sat (f_X11_metBy_J122 a0 l2_122 l3_122 μ_122) K13 → Rn_X11_metBy G (fun v μ' => v = some (.int r.1) ∧ μ' = r.2) 122 [(0, .ref a0), (2, .int l2_122), (3, .int l3_122)] [] μ_122 := by
    intro l2_122 l3_122 μ_122 h
    obtain ⟨v122, e122, h⟩ := Sat_bind h
    refine r_iinc (j := 2) (v := v122) (lv' := [(3, .int v122), (0, .ref a0), (2, .int l2_122)]) dX11_metBy_122 rfl (iinc_v e122 (by decide)) (by decide) rfl ?_
    refine r_goto 13 dX11_metBy_125 (by decide) ?_
    exact r_sub [1, 2, 0] rfl (hI13 _ (Sat_some h))
  refine r_iload_n dX11_metBy_13 2 rfl ?_
  refine r_bipush (v := 28) dX11_metBy_14 (by decide) ?_
  refine r_icmp_ge 128 dX11_metBy_16 (by decide) (fun c16 => ?_) (fun c16 => ?_)
  · have h := Sat_pos c16 h
    have h := hX13 _ (Sat_some h)
    exact r_sub [0, 1] rfl (J128 a0 s13.1 s13.2.2 h)
  · have h := Sat_neg c16 h
    refine r_aload_n dX11_metBy_19 0 rfl ?_
    refine r_aload_n dX11_metBy_20 0 rfl ?_
    obtain ⟨x21, e21, h⟩ := Sat_bind h
    refine r_getP fk_X11_73 rfl e21 dX11_metBy_21 ?_
    refine r_aload_n dX11_metBy_24 0 rfl ?_
    obtain ⟨x25, e25, h⟩ := Sat_bind h
    refine r_getI fk_X11_241 rfl e25 dX11_metBy_25 ?_
    obtain ⟨x28, e28, h⟩ := Sat_bind h
    refine r_laload e28 dX11_metBy_28 ?_
    refine r_iload_n dX11_metBy_29 2 rfl ?_
    refine r_bipush (v := 7) dX11_metBy_30 (by decide) ?_
    obtain ⟨x32, e32, h⟩ := Sat_bind h
    refine r_cV (t := 12) [.long x28, .int s13.2.1, .int (7 : Int32)] [] (m_X11_byDay a0 x28 s13.2.1 (7 : Int32) s13.2.2 e32) ck_X11_byDay lk_X11_356 in_X11_byDay se_X11_byDay (kd_of e32) ⟨rfl, by decide, by decide⟩ rfl rfl (Nat.le_of_ble_eq_true rfl) ⟨by decide, by decide⟩ ⟨Nat.zero_le _, Nat.zero_le _⟩ dX11_metBy_32 ?_
    refine r_aload_n dX11_metBy_35 0 rfl ?_
    refine r_aload_n dX11_metBy_36 0 rfl ?_
    obtain ⟨x37, e37, h⟩ := Sat_bind h
    refine r_getP fk_X11_73 rfl e37 dX11_metBy_37 ?_
    refine r_aload_n dX11_metBy_40 0 rfl ?_
    obtain ⟨x41, e41, h⟩ := Sat_bind h
    refine r_getI fk_X11_241 rfl e41 dX11_metBy_41 ?_
    obtain ⟨x44, e44, h⟩ := Sat_bind h
    refine r_laload e44 dX11_metBy_44 ?_
    refine r_iload_n dX11_metBy_45 2 rfl ?_
    refine r_bipush (v := 7) dX11_metBy_46 (by decide) ?_
    obtain ⟨x48, e48, h⟩ := Sat_bind h
    refine r_cV (t := 12) [.long x44, .int s13.2.1, .int (7 : Int32)] [] (m_X11_byNight a0 x44 s13.2.1 (7 : Int32) x32 e48) ck_X11_byNight lk_X11_360 in_X11_byNight se_X11_byNight (kd_of e48) ⟨rfl, by decide, by decide⟩ rfl rfl (Nat.le_of_ble_eq_true rfl) ⟨by decide, by decide⟩ ⟨Nat.zero_le _, Nat.zero_le _⟩ dX11_metBy_48 ?_
    refine r_iconst (v := 0) dX11_metBy_51 (by decide) ?_
    refine r_istore (lv' := [(4, .int (0 : Int32)), (0, .ref a0), (2, .int s13.1), (3, .int s13.2.1)]) dX11_metBy_52 (by decide) rfl ?_
    refine r_sub (lv' := [(0, .ref a0), (2, .int s13.1), (3, .int s13.2.1), (4, .int (0 : Int32))]) [1, 2, 3, 0] rfl ?_
    refine whl_K (s0 := ((s13.1, (0 : Int32)) : Int32 × Int32)) (RR := fun (s54 : Int32 × Int32) => Rn_X11_metBy G (fun v μ' => v = some (.int r.1) ∧ μ' = r.2) 54 [(0, .ref a0), (2, .int s54.1), (3, .int s13.2.1), (4, .int s54.2)] [] x48) ?_ (Sat_bindK h)
    intro s54 K54 hI54 hX54 h
    have J116 : ∀ (l2_116 : Int32) (l4_116 : Int32), Sat (f_X11_metBy_J116 a0 l2_116 s13.2.1 l4_116 x48) K54 → Rn_X11_metBy G (fun v μ' => v = some (.int r.1) ∧ μ' = r.2) 116 [(0, .ref a0), (2, .int l2_116), (3, .int s13.2.1), (4, .int l4_116)] [] x48 := by
      intro l2_116 l4_116 h
      obtain ⟨v116, e116, h⟩ := Sat_bind h
      refine r_iinc (j := 3) (v := v116) (lv' := [(4, .int v116), (0, .ref a0), (2, .int l2_116), (3, .int s13.2.1)]) dX11_metBy_116 rfl (iinc_v e116 (by decide)) (by decide) rfl ?_
      refine r_goto 54 dX11_metBy_119 (by decide) ?_
      exact r_sub [1, 2, 3, 0] rfl (hI54 _ (Sat_some h))
    refine r_iload dX11_metBy_54 3 rfl ?_
    refine r_aload_n dX11_metBy_56 0 rfl ?_
    obtain ⟨x57, e57, h⟩ := Sat_bind h
    refine r_getP fk_X11_17 rfl e57 dX11_metBy_57 ?_
    refine r_bipush (v := 9) dX11_metBy_60 (by decide) ?_
    obtain ⟨x62, e62, h⟩ := Sat_bind h
    refine r_iaload e62 dX11_metBy_62 ?_
    refine r_icmp_ge 122 dX11_metBy_63 (by decide) (fun c63 => ?_) (fun c63 => ?_)
    · have h := Sat_pos c63 h
      have h := hX54 _ (Sat_some h)
      exact r_sub [0, 1, 2] rfl (J122 s54.1 s13.2.1 x48 h)
    · have h := Sat_neg c63 h
      refine r_aload_n dX11_metBy_66 0 rfl ?_
      obtain ⟨x67, e67, h⟩ := Sat_bind h
      refine r_getP fk_X11_64 rfl e67 dX11_metBy_67 ?_
      refine r_iload dX11_metBy_70 3 rfl ?_
      obtain ⟨x72, e72, h⟩ := Sat_bind h
      refine r_iaload e72 dX11_metBy_72 ?_
      refine r_iload_n dX11_metBy_73 2 rfl ?_
      refine r_icmp_ne 116 dX11_metBy_74 (by decide) (fun c74 => ?_) (fun c74 => ?_)
      · have h := Sat_neg c74 h
        exact r_sub [0, 1, 2, 3] rfl (J116 s54.1 s54.2 h)
      · have h := Sat_pos c74 h
        refine r_aload_n dX11_metBy_77 0 rfl ?_
        obtain ⟨x78, e78, h⟩ := Sat_bind h
        refine r_getP fk_X11_76 rfl e78 dX11_metBy_78 ?_
        refine r_aload_n dX11_metBy_81 0 rfl ?_
        obtain ⟨x82, e82, h⟩ := Sat_bind h
        refine r_getP fk_X11_58 rfl e82 dX11_metBy_82 ?_
        refine r_iload dX11_metBy_85 3 rfl ?_
        obtain ⟨x87, e87, h⟩ := Sat_bind h
        refine r_iaload e87 dX11_metBy_87 ?_
        obtain ⟨x88, e88, h⟩ := Sat_bind h
        refine r_iaload e88 dX11_metBy_88 ?_
        refine r_aload_n dX11_metBy_89 0 rfl ?_
        obtain ⟨x90, e90, h⟩ := Sat_bind h
        refine r_getP fk_X11_61 rfl e90 dX11_metBy_90 ?_
        refine r_iload dX11_metBy_93 3 rfl ?_
        obtain ⟨x95, e95, h⟩ := Sat_bind h
        refine r_iaload e95 dX11_metBy_95 ?_
        refine r_ishr dX11_metBy_96 ?_
        refine r_iconst (v := 1) dX11_metBy_97 (by decide) ?_
        refine r_iand dX11_metBy_98 ?_
        refine r_aload_n dX11_metBy_99 0 rfl ?_
        obtain ⟨x100, e100, h⟩ := Sat_bind h
        refine r_getP fk_X11_67 rfl e100 dX11_metBy_100 ?_
        refine r_iload dX11_metBy_103 3 rfl ?_
        obtain ⟨x105, e105, h⟩ := Sat_bind h
        refine r_iaload e105 dX11_metBy_105 ?_
        refine r_icmp_eq 116 dX11_metBy_106 (by decide) (fun c106 => ?_) (fun c106 => ?_)
        · have h := Sat_pos c106 h
          exact r_sub [0, 1, 2, 3] rfl (J116 s54.1 s54.2 h)
        · have h := Sat_neg c106 h
          refine r_iload_n dX11_metBy_109 1 rfl ?_
          refine r_iconst (v := 1) dX11_metBy_110 (by decide) ?_
          refine r_iload dX11_metBy_111 3 rfl ?_
          refine r_ishl dX11_metBy_113 ?_
          refine r_ior dX11_metBy_114 ?_
          obtain ⟨v115, e115, h⟩ := Sat_bind h
          refine r_topi (Option.some.inj e115) ?_
          refine r_istore_n (lv' := [(2, .int v115), (0, .ref a0), (3, .int s13.2.1), (4, .int s54.2)]) dX11_metBy_115 rfl (by decide) rfl ?_
          exact r_sub [1, 0, 2, 3] rfl (J116 v115 s54.2 h)
theorem dX11_met_0 : decode cX11_met 0 = .ok (.aload_n 0, 1) := by decide +kernel
theorem dX11_met_1 : decode cX11_met 1 = .ok (.iload_n 1, 1) := by decide +kernel
theorem dX11_met_2 : decode cX11_met 2 = .ok (.invokevirtual 401, 3) := by decide +kernel
theorem dX11_met_5 : decode cX11_met 5 = .ok (.ifCond .eq 11, 3) := by decide +kernel
theorem dX11_met_8 : decode cX11_met 8 = .ok (.aload_n 0, 1) := by decide +kernel
theorem dX11_met_9 : decode cX11_met 9 = .ok (.iload_n 1, 1) := by decide +kernel
theorem dX11_met_10 : decode cX11_met 10 = .ok (.invokevirtual 404, 3) := by decide +kernel
theorem dX11_met_13 : decode cX11_met 13 = .ok (.goto 5, 3) := by decide +kernel
theorem dX11_met_16 : decode cX11_met 16 = .ok (.bipush (-2), 2) := by decide +kernel
theorem dX11_met_18 : decode cX11_met 18 = .ok (.ireturn, 1) := by decide +kernel
noncomputable def f_X11_met (a0 : Nat) (l1 : Int32) (μ : Mm) : Option (Int32 × Mm) :=
  if (mm_K μ a0).1 = 12 then (f_X11_isSet a0 l1 μ).bind fun x2 => if x2 = 0 then some ((-2 : Int32), μ) else (f_X11_metBy a0 l1 μ).bind fun x10 => some (x10.1, x10.2) else none
abbrev Rn_X11_met (G : Gv) (Q : Option Value → Mm → Prop) (pc : Nat) (lv : List (Nat × Value)) (st : List Value) (μ : Mm) : Prop := Rn G RX11 cX11_met 2 (some .int) "met" (rmd 4 0 0) (Zm G 0 0 Q) 0 0 pc lv st μ
set_option maxRecDepth 100000 in
set_option maxHeartbeats 4000000 in
theorem m_X11_met {G : Gv} (a0 : Nat) (l1 : Int32) (μ : Mm) {r : (Int32 × Mm)} (hx : f_X11_met a0 l1 μ = some r) : Mt G yX11_met cX11_met 2 (some .int) 4 0 0 [.ref a0, .int l1] μ (fun v μ' => v = some (.int r.1) ∧ μ' = r.2) := by
  refine Mt.of (by decide) (Nat.le_of_ble_eq_true rfl) ?_
  show Rn_X11_met G (fun v μ' => v = some (.int r.1) ∧ μ' = r.2) 0 [(0, .ref a0), (1, .int l1)] [] μ
  obtain ⟨_, h⟩ := Sat_ifp (show Sat (f_X11_met a0 l1 μ) (fun x => x = r) from ⟨_, hx, rfl⟩)
  refine r_aload_n dX11_met_0 0 rfl ?_
  refine r_iload_n dX11_met_1 1 rfl ?_
  obtain ⟨x2, e2, h⟩ := Sat_bind h
  refine r_cV (t := 12) [.int l1] [] (m_X11_isSet a0 l1 μ e2) ck_X11_isSet lk_X11_401 in_X11_isSet se_X11_isSet (kd_of e2) ⟨rfl, by decide, by decide⟩ rfl rfl (Nat.le_of_ble_eq_true rfl) ⟨by decide, by decide⟩ ⟨Nat.zero_le _, Nat.zero_le _⟩ dX11_met_2 ?_
  refine r_if_eq 16 dX11_met_5 (by decide) (fun c5 => ?_) (fun c5 => ?_)
  · have h := Sat_pos c5 h
    refine r_bipush (v := -2) dX11_met_16 (by decide) ?_
    exact r_ireturn rfl (by rw [← Sat_eq h]; exact ⟨rfl, rfl⟩) dX11_met_18
  · have h := Sat_neg c5 h
    refine r_aload_n dX11_met_8 0 rfl ?_
    refine r_iload_n dX11_met_9 1 rfl ?_
    obtain ⟨x10, e10, h⟩ := Sat_bind h
    refine r_cV (t := 12) [.int l1] [] (m_X11_metBy a0 l1 μ e10) ck_X11_metBy lk_X11_404 in_X11_metBy se_X11_metBy (kd_of e10) ⟨rfl, by decide, by decide⟩ rfl rfl (Nat.le_of_ble_eq_true rfl) ⟨by decide, by decide⟩ ⟨Nat.zero_le _, Nat.zero_le _⟩ dX11_met_10 ?_
    refine r_goto 18 dX11_met_13 (by decide) ?_
    exact r_ireturn rfl (by rw [← Sat_eq h]; exact ⟨rfl, rfl⟩) dX11_met_18
theorem dX11_named_0 : decode cX11_named 0 = .ok (.iconst 0, 1) := by decide +kernel
theorem dX11_named_1 : decode cX11_named 1 = .ok (.istore_n 1, 1) := by decide +kernel
theorem dX11_named_2 : decode cX11_named 2 = .ok (.iload_n 1, 1) := by decide +kernel
theorem dX11_named_3 : decode cX11_named 3 = .ok (.aload_n 0, 1) := by decide +kernel
theorem dX11_named_4 : decode cX11_named 4 = .ok (.getfield 17, 3) := by decide +kernel
theorem dX11_named_7 : decode cX11_named 7 = .ok (.bipush 11, 2) := by decide +kernel
theorem dX11_named_9 : decode cX11_named 9 = .ok (.iaload, 1) := by decide +kernel
theorem dX11_named_10 : decode cX11_named 10 = .ok (.if_icmp .ge 25, 3) := by decide +kernel
theorem dX11_named_13 : decode cX11_named 13 = .ok (.aload_n 0, 1) := by decide +kernel
theorem dX11_named_14 : decode cX11_named 14 = .ok (.getfield 21, 3) := by decide +kernel
theorem dX11_named_17 : decode cX11_named 17 = .ok (.iload_n 1, 1) := by decide +kernel
theorem dX11_named_18 : decode cX11_named 18 = .ok (.laload, 1) := by decide +kernel
theorem dX11_named_19 : decode cX11_named 19 = .ok (.aload_n 0, 1) := by decide +kernel
theorem dX11_named_20 : decode cX11_named 20 = .ok (.getfield 193, 3) := by decide +kernel
theorem dX11_named_23 : decode cX11_named 23 = .ok (.lcmp, 1) := by decide +kernel
theorem dX11_named_24 : decode cX11_named 24 = .ok (.ifCond .ne 5, 3) := by decide +kernel
theorem dX11_named_27 : decode cX11_named 27 = .ok (.iload_n 1, 1) := by decide +kernel
theorem dX11_named_28 : decode cX11_named 28 = .ok (.ireturn, 1) := by decide +kernel
theorem dX11_named_29 : decode cX11_named 29 = .ok (.iinc 1 1, 3) := by decide +kernel
theorem dX11_named_32 : decode cX11_named 32 = .ok (.goto (-30), 3) := by decide +kernel
theorem dX11_named_35 : decode cX11_named 35 = .ok (.iconst (-1), 1) := by decide +kernel
theorem dX11_named_36 : decode cX11_named 36 = .ok (.ireturn, 1) := by decide +kernel
noncomputable def f_X11_named_L2 (a0 : Nat) (μ : Mm) (s2 : Int32) : Option ((Int32) ⊕ ((Int32) ⊕ (Unit))) :=
  (gf_P 12 12 a0 μ).bind fun x4 => (ga_I x4 (11 : Int32) μ).bind fun x9 => if x9 ≤ s2 then some (.inr (.inr ())) else (gf_P 12 13 a0 μ).bind fun x14 => (ga_L x14 s2 μ).bind fun x18 => (gf_L 12 10 a0 μ).bind fun x20 => if (lg_cmp x18 x20) = 0 then some (.inr (.inl s2)) else (some (s2 + (1 : Int32))).bind fun v29 => some (.inl v29)
noncomputable def f_X11_named (a0 : Nat) (μ : Mm) : Option Int32 :=
  if (mm_K μ a0).1 = 12 then (whl (f_X11_named_L2 a0 μ) (0 : Int32)).bind (sm (fun b2 => some b2) (fun b2 => some (-1 : Int32))) else none
abbrev Rn_X11_named (G : Gv) (Q : Option Value → Mm → Prop) (pc : Nat) (lv : List (Nat × Value)) (st : List Value) (μ : Mm) : Prop := Rn G RX11 cX11_named 2 (some .int) "named" (rmd 0 0 0) (Zm G 0 0 Q) 0 0 pc lv st μ
set_option maxRecDepth 100000 in
set_option maxHeartbeats 4000000 in
theorem m_X11_named {G : Gv} (a0 : Nat) (μ : Mm) {r : Int32} (hx : f_X11_named a0 μ = some r) : Mt G yX11_named cX11_named 2 (some .int) 0 0 0 [.ref a0] μ (fun v μ' => v = some (.int r) ∧ μ' = μ) := by
  refine Mt.of (by decide) (Nat.le_of_ble_eq_true rfl) ?_
  show Rn_X11_named G (fun v μ' => v = some (.int r) ∧ μ' = μ) 0 [(0, .ref a0)] [] μ
  obtain ⟨_, h⟩ := Sat_ifp (show Sat (f_X11_named a0 μ) (fun x => x = r) from ⟨_, hx, rfl⟩)
  refine r_iconst (v := 0) dX11_named_0 (by decide) ?_
  refine r_istore_n (lv' := [(1, .int (0 : Int32)), (0, .ref a0)]) dX11_named_1 rfl (by decide) rfl ?_
  refine r_sub (lv' := [(0, .ref a0), (1, .int (0 : Int32))]) [1, 0] rfl ?_
  refine whl_K (s0 := ((0 : Int32) : Int32)) (RR := fun (s2 : Int32) => Rn_X11_named G (fun v μ' => v = some (.int r) ∧ μ' = μ) 2 [(0, .ref a0), (1, .int s2)] [] μ) ?_ (Sat_bindK h)
  intro s2 K2 hI2 hX2 h
  refine r_iload_n dX11_named_2 1 rfl ?_
  refine r_aload_n dX11_named_3 0 rfl ?_
  obtain ⟨x4, e4, h⟩ := Sat_bind h
  refine r_getP fk_X11_17 rfl e4 dX11_named_4 ?_
  refine r_bipush (v := 11) dX11_named_7 (by decide) ?_
  obtain ⟨x9, e9, h⟩ := Sat_bind h
  refine r_iaload e9 dX11_named_9 ?_
  refine r_icmp_ge 35 dX11_named_10 (by decide) (fun c10 => ?_) (fun c10 => ?_)
  · have h := Sat_pos c10 h
    have h := hX2 _ (Sat_some h)
    refine r_iconst (v := -1) dX11_named_35 (by decide) ?_
    exact r_ireturn rfl (by rw [← Sat_eq h]; exact ⟨rfl, rfl⟩) dX11_named_36
  · have h := Sat_neg c10 h
    refine r_aload_n dX11_named_13 0 rfl ?_
    obtain ⟨x14, e14, h⟩ := Sat_bind h
    refine r_getP fk_X11_21 rfl e14 dX11_named_14 ?_
    refine r_iload_n dX11_named_17 1 rfl ?_
    obtain ⟨x18, e18, h⟩ := Sat_bind h
    refine r_laload e18 dX11_named_18 ?_
    refine r_aload_n dX11_named_19 0 rfl ?_
    obtain ⟨x20, e20, h⟩ := Sat_bind h
    refine r_getL fk_X11_193 rfl e20 dX11_named_20 ?_
    refine r_lcmp dX11_named_23 ?_
    refine r_if_ne 29 dX11_named_24 (by decide) (fun c24 => ?_) (fun c24 => ?_)
    · have h := Sat_neg c24 h
      obtain ⟨v29, e29, h⟩ := Sat_bind h
      refine r_iinc (j := 1) (v := v29) (lv' := [(1, .int v29), (0, .ref a0)]) dX11_named_29 rfl (iinc_v e29 (by decide)) (by decide) rfl ?_
      refine r_goto 2 dX11_named_32 (by decide) ?_
      exact r_sub [1, 0] rfl (hI2 _ (Sat_some h))
    · have h := Sat_pos c24 h
      have h := hX2 _ (Sat_some h)
      refine r_iload_n dX11_named_27 1 rfl ?_
      exact r_ireturn rfl (by rw [← Sat_eq h]; exact ⟨rfl, rfl⟩) dX11_named_28
theorem dX11_now_0 : decode cX11_now 0 = .ok (.aload_n 0, 1) := by decide +kernel
theorem dX11_now_1 : decode cX11_now 1 = .ok (.iload_n 1, 1) := by decide +kernel
theorem dX11_now_2 : decode cX11_now 2 = .ok (.invokevirtual 309, 3) := by decide +kernel
theorem dX11_now_5 : decode cX11_now 5 = .ok (.ifCond .eq 12, 3) := by decide +kernel
theorem dX11_now_8 : decode cX11_now 8 = .ok (.iload_n 2, 1) := by decide +kernel
theorem dX11_now_9 : decode cX11_now 9 = .ok (.iconst 0, 1) := by decide +kernel
theorem dX11_now_10 : decode cX11_now 10 = .ok (.iconst 1, 1) := by decide +kernel
theorem dX11_now_11 : decode cX11_now 11 = .ok (.invokestatic 217, 3) := by decide +kernel
theorem dX11_now_14 : decode cX11_now 14 = .ok (.ifCond .ne 6, 3) := by decide +kernel
theorem dX11_now_17 : decode cX11_now 17 = .ok (.bipush (-2), 2) := by decide +kernel
theorem dX11_now_19 : decode cX11_now 19 = .ok (.ireturn, 1) := by decide +kernel
theorem dX11_now_20 : decode cX11_now 20 = .ok (.aload_n 0, 1) := by decide +kernel
theorem dX11_now_21 : decode cX11_now 21 = .ok (.getfield 253, 3) := by decide +kernel
theorem dX11_now_24 : decode cX11_now 24 = .ok (.ifCond .ne 7, 3) := by decide +kernel
theorem dX11_now_27 : decode cX11_now 27 = .ok (.iconst (-1), 1) := by decide +kernel
theorem dX11_now_28 : decode cX11_now 28 = .ok (.goto 29, 3) := by decide +kernel
theorem dX11_now_31 : decode cX11_now 31 = .ok (.iload_n 2, 1) := by decide +kernel
theorem dX11_now_32 : decode cX11_now 32 = .ok (.ifCond .ne 12, 3) := by decide +kernel
theorem dX11_now_35 : decode cX11_now 35 = .ok (.aload_n 0, 1) := by decide +kernel
theorem dX11_now_36 : decode cX11_now 36 = .ok (.getfield 133, 3) := by decide +kernel
theorem dX11_now_39 : decode cX11_now 39 = .ok (.iload_n 1, 1) := by decide +kernel
theorem dX11_now_40 : decode cX11_now 40 = .ok (.iaload, 1) := by decide +kernel
theorem dX11_now_41 : decode cX11_now 41 = .ok (.goto 16, 3) := by decide +kernel
theorem dX11_now_44 : decode cX11_now 44 = .ok (.aload_n 0, 1) := by decide +kernel
theorem dX11_now_45 : decode cX11_now 45 = .ok (.getfield 73, 3) := by decide +kernel
theorem dX11_now_48 : decode cX11_now 48 = .ok (.aload_n 0, 1) := by decide +kernel
theorem dX11_now_49 : decode cX11_now 49 = .ok (.getfield 446, 3) := by decide +kernel
theorem dX11_now_52 : decode cX11_now 52 = .ok (.laload, 1) := by decide +kernel
theorem dX11_now_53 : decode cX11_now 53 = .ok (.iload_n 1, 1) := by decide +kernel
theorem dX11_now_54 : decode cX11_now 54 = .ok (.invokestatic 320, 3) := by decide +kernel
theorem dX11_now_57 : decode cX11_now 57 = .ok (.ireturn, 1) := by decide +kernel
noncomputable def f_X11_now (a0 : Nat) (l1 : Int32) (l2 : Int32) (μ : Mm) : Option Int32 :=
  if (mm_K μ a0).1 = 12 then (f_X11_isPerson a0 l1 μ).bind fun x2 => if x2 = 0 then some (-2 : Int32) else (f_X11_in l2 (0 : Int32) (1 : Int32) μ).bind fun x11 => if x11 = 0 then some (-2 : Int32) else (gf_I 12 64 a0 μ).bind fun x21 => if x21 = 0 then some (-1 : Int32) else if l2 = 0 then (gf_P 12 68 a0 μ).bind fun x36 => (ga_I x36 l1 μ).bind fun x40 => some x40 else (gf_P 12 34 a0 μ).bind fun x45 => (gf_I 12 65 a0 μ).bind fun x49 => (ga_L x45 x49 μ).bind fun x52 => (f_X11_dreamtBy x52 l1 μ).bind fun x54 => some x54 else none
abbrev Rn_X11_now (G : Gv) (Q : Option Value → Mm → Prop) (pc : Nat) (lv : List (Nat × Value)) (st : List Value) (μ : Mm) : Prop := Rn G RX11 cX11_now 3 (some .int) "now" (rmd 2 0 0) (Zm G 0 0 Q) 0 0 pc lv st μ
set_option maxRecDepth 100000 in
set_option maxHeartbeats 4000000 in
theorem m_X11_now {G : Gv} (a0 : Nat) (l1 : Int32) (l2 : Int32) (μ : Mm) {r : Int32} (hx : f_X11_now a0 l1 l2 μ = some r) : Mt G yX11_now cX11_now 3 (some .int) 2 0 0 [.ref a0, .int l1, .int l2] μ (fun v μ' => v = some (.int r) ∧ μ' = μ) := by
  refine Mt.of (by decide) (Nat.le_of_ble_eq_true rfl) ?_
  show Rn_X11_now G (fun v μ' => v = some (.int r) ∧ μ' = μ) 0 [(0, .ref a0), (1, .int l1), (2, .int l2)] [] μ
  obtain ⟨_, h⟩ := Sat_ifp (show Sat (f_X11_now a0 l1 l2 μ) (fun x => x = r) from ⟨_, hx, rfl⟩)
  refine r_aload_n dX11_now_0 0 rfl ?_
  refine r_iload_n dX11_now_1 1 rfl ?_
  obtain ⟨x2, e2, h⟩ := Sat_bind h
  refine r_cV (t := 12) [.int l1] [] (m_X11_isPerson a0 l1 μ e2) ck_X11_isPerson lk_X11_309 in_X11_isPerson se_X11_isPerson (kd_of e2) ⟨rfl, by decide, by decide⟩ rfl rfl (Nat.le_of_ble_eq_true rfl) ⟨by decide, by decide⟩ ⟨Nat.zero_le _, Nat.zero_le _⟩ dX11_now_2 ?_
  refine r_if_eq 17 dX11_now_5 (by decide) (fun c5 => ?_) (fun c5 => ?_)
  · have h := Sat_pos c5 h
    refine r_bipush (v := -2) dX11_now_17 (by decide) ?_
    exact r_ireturn rfl (by rw [← Sat_eq h]; exact ⟨rfl, rfl⟩) dX11_now_19
  · have h := Sat_neg c5 h
    refine r_iload_n dX11_now_8 2 rfl ?_
    refine r_iconst (v := 0) dX11_now_9 (by decide) ?_
    refine r_iconst (v := 1) dX11_now_10 (by decide) ?_
    obtain ⟨x11, e11, h⟩ := Sat_bind h
    refine r_cS [.int l2, .int (0 : Int32), .int (1 : Int32)] [] (m_X11_in l2 (0 : Int32) (1 : Int32) μ e11) ck_X11_in lk_X11_217 st_X11_in rfl rfl (Nat.le_of_ble_eq_true rfl) ⟨by decide, by decide⟩ ⟨Nat.zero_le _, Nat.zero_le _⟩ dX11_now_11 ?_
    refine r_if_ne 20 dX11_now_14 (by decide) (fun c14 => ?_) (fun c14 => ?_)
    · have h := Sat_neg c14 h
      refine r_aload_n dX11_now_20 0 rfl ?_
      obtain ⟨x21, e21, h⟩ := Sat_bind h
      refine r_getI fk_X11_253 rfl e21 dX11_now_21 ?_
      refine r_if_ne 31 dX11_now_24 (by decide) (fun c24 => ?_) (fun c24 => ?_)
      · have h := Sat_neg c24 h
        refine r_iload_n dX11_now_31 2 rfl ?_
        refine r_if_ne 44 dX11_now_32 (by decide) (fun c32 => ?_) (fun c32 => ?_)
        · have h := Sat_neg c32 h
          refine r_aload_n dX11_now_44 0 rfl ?_
          obtain ⟨x45, e45, h⟩ := Sat_bind h
          refine r_getP fk_X11_73 rfl e45 dX11_now_45 ?_
          refine r_aload_n dX11_now_48 0 rfl ?_
          obtain ⟨x49, e49, h⟩ := Sat_bind h
          refine r_getI fk_X11_446 rfl e49 dX11_now_49 ?_
          obtain ⟨x52, e52, h⟩ := Sat_bind h
          refine r_laload e52 dX11_now_52 ?_
          refine r_iload_n dX11_now_53 1 rfl ?_
          obtain ⟨x54, e54, h⟩ := Sat_bind h
          refine r_cS [.long x52, .int l1] [] (m_X11_dreamtBy x52 l1 μ e54) ck_X11_dreamtBy lk_X11_320 st_X11_dreamtBy rfl rfl (Nat.le_of_ble_eq_true rfl) ⟨by decide, by decide⟩ ⟨Nat.zero_le _, Nat.zero_le _⟩ dX11_now_54 ?_
          exact r_ireturn rfl (by rw [← Sat_eq h]; exact ⟨rfl, rfl⟩) dX11_now_57
        · have h := Sat_pos c32 h
          refine r_aload_n dX11_now_35 0 rfl ?_
          obtain ⟨x36, e36, h⟩ := Sat_bind h
          refine r_getP fk_X11_133 rfl e36 dX11_now_36 ?_
          refine r_iload_n dX11_now_39 1 rfl ?_
          obtain ⟨x40, e40, h⟩ := Sat_bind h
          refine r_iaload e40 dX11_now_40 ?_
          refine r_goto 57 dX11_now_41 (by decide) ?_
          exact r_ireturn rfl (by rw [← Sat_eq h]; exact ⟨rfl, rfl⟩) dX11_now_57
      · have h := Sat_pos c24 h
        refine r_iconst (v := -1) dX11_now_27 (by decide) ?_
        refine r_goto 57 dX11_now_28 (by decide) ?_
        exact r_ireturn rfl (by rw [← Sat_eq h]; exact ⟨rfl, rfl⟩) dX11_now_57
    · have h := Sat_pos c14 h
      refine r_bipush (v := -2) dX11_now_17 (by decide) ?_
      exact r_ireturn rfl (by rw [← Sat_eq h]; exact ⟨rfl, rfl⟩) dX11_now_19
theorem dX11_number_0 : decode cX11_number 0 = .ok (.aload_n 0, 1) := by decide +kernel
theorem dX11_number_1 : decode cX11_number 1 = .ok (.getfield 155, 3) := by decide +kernel
theorem dX11_number_4 : decode cX11_number 4 = .ok (.istore_n 1, 1) := by decide +kernel
theorem dX11_number_5 : decode cX11_number 5 = .ok (.aload_n 0, 1) := by decide +kernel
theorem dX11_number_6 : decode cX11_number 6 = .ok (.iconst 0, 1) := by decide +kernel
theorem dX11_number_7 : decode cX11_number 7 = .ok (.putfield 155, 3) := by decide +kernel
theorem dX11_number_10 : decode cX11_number 10 = .ok (.iload_n 1, 1) := by decide +kernel
theorem dX11_number_11 : decode cX11_number 11 = .ok (.aload_n 0, 1) := by decide +kernel
theorem dX11_number_12 : decode cX11_number 12 = .ok (.getfield 17, 3) := by decide +kernel
theorem dX11_number_15 : decode cX11_number 15 = .ok (.iconst 0, 1) := by decide +kernel
theorem dX11_number_16 : decode cX11_number 16 = .ok (.iaload, 1) := by decide +kernel
theorem dX11_number_17 : decode cX11_number 17 = .ok (.if_icmp .eq 5, 3) := by decide +kernel
theorem dX11_number_20 : decode cX11_number 20 = .ok (.iconst (-1), 1) := by decide +kernel
theorem dX11_number_21 : decode cX11_number 21 = .ok (.ireturn, 1) := by decide +kernel
theorem dX11_number_22 : decode cX11_number 22 = .ok (.lconst 0, 1) := by decide +kernel
theorem dX11_number_23 : decode cX11_number 23 = .ok (.lstore_n 2, 1) := by decide +kernel
theorem dX11_number_24 : decode cX11_number 24 = .ok (.iconst 0, 1) := by decide +kernel
theorem dX11_number_25 : decode cX11_number 25 = .ok (.istore 4, 2) := by decide +kernel
theorem dX11_number_27 : decode cX11_number 27 = .ok (.iload 4, 2) := by decide +kernel
theorem dX11_number_29 : decode cX11_number 29 = .ok (.iload_n 1, 1) := by decide +kernel
theorem dX11_number_30 : decode cX11_number 30 = .ok (.if_icmp .ge 74, 3) := by decide +kernel
theorem dX11_number_33 : decode cX11_number 33 = .ok (.aload_n 0, 1) := by decide +kernel
theorem dX11_number_34 : decode cX11_number 34 = .ok (.getfield 7, 3) := by decide +kernel
theorem dX11_number_37 : decode cX11_number 37 = .ok (.iload 4, 2) := by decide +kernel
theorem dX11_number_39 : decode cX11_number 39 = .ok (.baload, 1) := by decide +kernel
theorem dX11_number_40 : decode cX11_number 40 = .ok (.bipush 111, 2) := by decide +kernel
theorem dX11_number_42 : decode cX11_number 42 = .ok (.if_icmp .ne 8, 3) := by decide +kernel
theorem dX11_number_45 : decode cX11_number 45 = .ok (.bipush 15, 2) := by decide +kernel
theorem dX11_number_47 : decode cX11_number 47 = .ok (.goto 13, 3) := by decide +kernel
theorem dX11_number_50 : decode cX11_number 50 = .ok (.aload_n 0, 1) := by decide +kernel
theorem dX11_number_51 : decode cX11_number 51 = .ok (.getfield 7, 3) := by decide +kernel
theorem dX11_number_54 : decode cX11_number 54 = .ok (.iload 4, 2) := by decide +kernel
theorem dX11_number_56 : decode cX11_number 56 = .ok (.baload, 1) := by decide +kernel
theorem dX11_number_57 : decode cX11_number 57 = .ok (.bipush 48, 2) := by decide +kernel
theorem dX11_number_59 : decode cX11_number 59 = .ok (.isub, 1) := by decide +kernel
theorem dX11_number_60 : decode cX11_number 60 = .ok (.istore 5, 2) := by decide +kernel
theorem dX11_number_62 : decode cX11_number 62 = .ok (.iload 5, 2) := by decide +kernel
theorem dX11_number_64 : decode cX11_number 64 = .ok (.iconst 0, 1) := by decide +kernel
theorem dX11_number_65 : decode cX11_number 65 = .ok (.bipush 7, 2) := by decide +kernel
theorem dX11_number_67 : decode cX11_number 67 = .ok (.invokestatic 217, 3) := by decide +kernel
theorem dX11_number_70 : decode cX11_number 70 = .ok (.ifCond .ne 17, 3) := by decide +kernel
theorem dX11_number_73 : decode cX11_number 73 = .ok (.aload_n 0, 1) := by decide +kernel
theorem dX11_number_74 : decode cX11_number 74 = .ok (.getfield 7, 3) := by decide +kernel
theorem dX11_number_77 : decode cX11_number 77 = .ok (.iload 4, 2) := by decide +kernel
theorem dX11_number_79 : decode cX11_number 79 = .ok (.baload, 1) := by decide +kernel
theorem dX11_number_80 : decode cX11_number 80 = .ok (.bipush 111, 2) := by decide +kernel
theorem dX11_number_82 : decode cX11_number 82 = .ok (.if_icmp .eq 5, 3) := by decide +kernel
theorem dX11_number_85 : decode cX11_number 85 = .ok (.iconst (-1), 1) := by decide +kernel
theorem dX11_number_86 : decode cX11_number 86 = .ok (.ireturn, 1) := by decide +kernel
theorem dX11_number_87 : decode cX11_number 87 = .ok (.lload_n 2, 1) := by decide +kernel
theorem dX11_number_88 : decode cX11_number 88 = .ok (.iload 5, 2) := by decide +kernel
theorem dX11_number_90 : decode cX11_number 90 = .ok (.i2l, 1) := by decide +kernel
theorem dX11_number_91 : decode cX11_number 91 = .ok (.iconst 4, 1) := by decide +kernel
theorem dX11_number_92 : decode cX11_number 92 = .ok (.iload 4, 2) := by decide +kernel
theorem dX11_number_94 : decode cX11_number 94 = .ok (.imul, 1) := by decide +kernel
theorem dX11_number_95 : decode cX11_number 95 = .ok (.lshl, 1) := by decide +kernel
theorem dX11_number_96 : decode cX11_number 96 = .ok (.lor, 1) := by decide +kernel
theorem dX11_number_97 : decode cX11_number 97 = .ok (.lstore_n 2, 1) := by decide +kernel
theorem dX11_number_98 : decode cX11_number 98 = .ok (.iinc 4 1, 3) := by decide +kernel
theorem dX11_number_101 : decode cX11_number 101 = .ok (.goto (-74), 3) := by decide +kernel
theorem dX11_number_104 : decode cX11_number 104 = .ok (.aload_n 0, 1) := by decide +kernel
theorem dX11_number_105 : decode cX11_number 105 = .ok (.lload_n 2, 1) := by decide +kernel
theorem dX11_number_106 : decode cX11_number 106 = .ok (.invokevirtual 324, 3) := by decide +kernel
theorem dX11_number_109 : decode cX11_number 109 = .ok (.ireturn, 1) := by decide +kernel
noncomputable def f_X11_number_J104 (a0 : Nat) (l2 : Int64) (μ : Mm) : Option (Int32 × Mm) :=
  (f_X11_numberOf a0 l2 μ).bind fun x106 => some (x106, μ)
noncomputable def f_X11_number_J87 (a0 : Nat) (l1 : Int32) (l2 : Int64) (l4 : Int32) (l5 : Int32) (μ : Mm) : Option ((Int64 × Int32) ⊕ ((Unit) ⊕ (Int64))) :=
  (some (l2 ||| (l5.toInt64 <<< (((4 : Int32) * l4).toInt64 &&& 63)))).bind fun v97 => (some (l4 + (1 : Int32))).bind fun v98 => some (.inl (v97, v98))
noncomputable def f_X11_number_J60 (a0 : Nat) (l1 : Int32) (l2 : Int64) (l4 : Int32) (k0 : Int32) (μ : Mm) : Option ((Int64 × Int32) ⊕ ((Unit) ⊕ (Int64))) :=
  (f_X11_in k0 (0 : Int32) (7 : Int32) μ).bind fun x67 => if x67 = 0 then (gf_P 12 0 a0 μ).bind fun x74 => (ga_B x74 l4 μ).bind fun x79 => if x79 = (111 : Int32) then f_X11_number_J87 a0 l1 l2 l4 k0 μ else some (.inr (.inl ())) else f_X11_number_J87 a0 l1 l2 l4 k0 μ
noncomputable def f_X11_number_L27 (a0 : Nat) (l1 : Int32) (μ : Mm) (s27 : Int64 × Int32) : Option ((Int64 × Int32) ⊕ ((Unit) ⊕ (Int64))) :=
  if l1 ≤ s27.2 then some (.inr (.inr s27.1)) else (gf_P 12 0 a0 μ).bind fun x34 => (ga_B x34 s27.2 μ).bind fun x39 => if x39 = (111 : Int32) then f_X11_number_J60 a0 l1 s27.1 s27.2 (15 : Int32) μ else (gf_P 12 0 a0 μ).bind fun x51 => (ga_B x51 s27.2 μ).bind fun x56 => f_X11_number_J60 a0 l1 s27.1 s27.2 (x56 - (48 : Int32)) μ
noncomputable def f_X11_number (a0 : Nat) (μ : Mm) : Option (Int32 × Mm) :=
  if (mm_K μ a0).1 = 12 then (gf_I 12 1 a0 μ).bind fun x1 => (pf_I 12 1 a0 (0 : Int32) μ).bind fun μ7 => (gf_P 12 12 a0 μ7).bind fun x12 => (ga_I x12 (0 : Int32) μ7).bind fun x16 => if x1 = x16 then (whl (f_X11_number_L27 a0 x1 μ7) ((0 : Int64), (0 : Int32))).bind (sm (fun b27 => some ((-1 : Int32), μ7)) (fun b27 => f_X11_number_J104 a0 b27 μ7)) else some ((-1 : Int32), μ7) else none
abbrev Rn_X11_number (G : Gv) (Q : Option Value → Mm → Prop) (pc : Nat) (lv : List (Nat × Value)) (st : List Value) (μ : Mm) : Prop := Rn G RX11 cX11_number 6 (some .int) "number" (rmd 1 0 0) (Zm G 0 0 Q) 0 0 pc lv st μ
set_option maxRecDepth 100000 in
set_option maxHeartbeats 4000000 in
theorem m_X11_number {G : Gv} (a0 : Nat) (μ : Mm) {r : (Int32 × Mm)} (hx : f_X11_number a0 μ = some r) : Mt G yX11_number cX11_number 6 (some .int) 1 0 0 [.ref a0] μ (fun v μ' => v = some (.int r.1) ∧ μ' = r.2) := by
  refine Mt.of (by decide) (Nat.le_of_ble_eq_true rfl) ?_
  show Rn_X11_number G (fun v μ' => v = some (.int r.1) ∧ μ' = r.2) 0 [(0, .ref a0)] [] μ
  obtain ⟨_, h⟩ := Sat_ifp (show Sat (f_X11_number a0 μ) (fun x => x = r) from ⟨_, hx, rfl⟩)
  have J104 : ∀ (a0_104 : Nat) (l2_104 : Int64) (μ_104 : Mm), Sat (f_X11_number_J104 a0_104 l2_104 μ_104) (fun x => x = r) → Rn_X11_number G (fun v μ' => v = some (.int r.1) ∧ μ' = r.2) 104 [(0, .ref a0_104), (2, .long l2_104)] [] μ_104 := by
    intro a0_104 l2_104 μ_104 h
    refine r_aload_n dX11_number_104 0 rfl ?_
    refine r_lload_n dX11_number_105 1 rfl ?_
    obtain ⟨x106, e106, h⟩ := Sat_bind h
    refine r_cV (t := 12) [.long l2_104] [] (m_X11_numberOf a0_104 l2_104 μ_104 e106) ck_X11_numberOf lk_X11_324 in_X11_numberOf se_X11_numberOf (kd_of e106) ⟨rfl, by decide, by decide⟩ rfl rfl (Nat.le_of_ble_eq_true rfl) ⟨by decide, by decide⟩ ⟨Nat.zero_le _, Nat.zero_le _⟩ dX11_number_106 ?_
    exact r_ireturn rfl (by rw [← Sat_eq h]; exact ⟨rfl, rfl⟩) dX11_number_109
  refine r_aload_n dX11_number_0 0 rfl ?_
  obtain ⟨x1, e1, h⟩ := Sat_bind h
  refine r_getI fk_X11_155 rfl e1 dX11_number_1 ?_
  refine r_istore_n (lv' := [(1, .int x1), (0, .ref a0)]) dX11_number_4 rfl (by decide) rfl ?_
  refine r_aload_n dX11_number_5 1 rfl ?_
  refine r_iconst (v := 0) dX11_number_6 (by decide) ?_
  obtain ⟨μ7, e7, h⟩ := Sat_bind h
  refine r_putI fk_X11_155 rfl rfl e7 dX11_number_7 ?_
  refine r_iload_n dX11_number_10 0 rfl ?_
  refine r_aload_n dX11_number_11 1 rfl ?_
  obtain ⟨x12, e12, h⟩ := Sat_bind h
  refine r_getP fk_X11_17 rfl e12 dX11_number_12 ?_
  refine r_iconst (v := 0) dX11_number_15 (by decide) ?_
  obtain ⟨x16, e16, h⟩ := Sat_bind h
  refine r_iaload e16 dX11_number_16 ?_
  refine r_icmp_eq 22 dX11_number_17 (by decide) (fun c17 => ?_) (fun c17 => ?_)
  · have h := Sat_pos c17 h
    refine r_lconst (v := 0) dX11_number_22 (by decide) ?_
    refine r_lstore_n (lv' := [(2, .long (0 : Int64)), (1, .int x1), (0, .ref a0)]) dX11_number_23 rfl (by decide) rfl ?_
    refine r_iconst (v := 0) dX11_number_24 (by decide) ?_
    refine r_istore (lv' := [(4, .int (0 : Int32)), (2, .long (0 : Int64)), (1, .int x1), (0, .ref a0)]) dX11_number_25 (by decide) rfl ?_
    refine r_sub (lv' := [(0, .ref a0), (1, .int x1), (2, .long (0 : Int64)), (4, .int (0 : Int32))]) [3, 2, 1, 0] rfl ?_
    refine whl_K (s0 := (((0 : Int64), (0 : Int32)) : Int64 × Int32)) (RR := fun (s27 : Int64 × Int32) => Rn_X11_number G (fun v μ' => v = some (.int r.1) ∧ μ' = r.2) 27 [(0, .ref a0), (1, .int x1), (2, .long s27.1), (4, .int s27.2)] [] μ7) ?_ (Sat_bindK h)
    intro s27 K27 hI27 hX27 h
    have J87 : ∀ (l2_87 : Int64) (l4_87 : Int32) (l5_87 : Int32), Sat (f_X11_number_J87 a0 x1 l2_87 l4_87 l5_87 μ7) K27 → Rn_X11_number G (fun v μ' => v = some (.int r.1) ∧ μ' = r.2) 87 [(0, .ref a0), (1, .int x1), (2, .long l2_87), (4, .int l4_87), (5, .int l5_87)] [] μ7 := by
      intro l2_87 l4_87 l5_87 h
      refine r_lload_n dX11_number_87 2 rfl ?_
      refine r_iload dX11_number_88 4 rfl ?_
      refine r_i2l dX11_number_90 ?_
      refine r_iconst (v := 4) dX11_number_91 (by decide) ?_
      refine r_iload dX11_number_92 3 rfl ?_
      refine r_imul dX11_number_94 ?_
      refine r_lshl dX11_number_95 ?_
      refine r_lor dX11_number_96 ?_
      obtain ⟨v97, e97, h⟩ := Sat_bind h
      refine r_topl (Option.some.inj e97) ?_
      refine r_lstore_n (lv' := [(2, .long v97), (0, .ref a0), (1, .int x1), (4, .int l4_87), (5, .int l5_87)]) dX11_number_97 rfl (by decide) rfl ?_
      obtain ⟨v98, e98, h⟩ := Sat_bind h
      refine r_iinc (j := 3) (v := v98) (lv' := [(4, .int v98), (2, .long v97), (0, .ref a0), (1, .int x1), (5, .int l5_87)]) dX11_number_98 rfl (iinc_v e98 (by decide)) (by decide) rfl ?_
      refine r_goto 27 dX11_number_101 (by decide) ?_
      exact r_sub [2, 3, 1, 0] rfl (hI27 _ (Sat_some h))
    have J60 : ∀ (l2_60 : Int64) (l4_60 : Int32) (k0_60 : Int32), Sat (f_X11_number_J60 a0 x1 l2_60 l4_60 k0_60 μ7) K27 → Rn_X11_number G (fun v μ' => v = some (.int r.1) ∧ μ' = r.2) 60 [(0, .ref a0), (1, .int x1), (2, .long l2_60), (4, .int l4_60)] [.int k0_60] μ7 := by
      intro l2_60 l4_60 k0_60 h
      refine r_istore (lv' := [(5, .int k0_60), (0, .ref a0), (1, .int x1), (2, .long l2_60), (4, .int l4_60)]) dX11_number_60 (by decide) rfl ?_
      refine r_iload dX11_number_62 0 rfl ?_
      refine r_iconst (v := 0) dX11_number_64 (by decide) ?_
      refine r_bipush (v := 7) dX11_number_65 (by decide) ?_
      obtain ⟨x67, e67, h⟩ := Sat_bind h
      refine r_cS [.int k0_60, .int (0 : Int32), .int (7 : Int32)] [] (m_X11_in k0_60 (0 : Int32) (7 : Int32) μ7 e67) ck_X11_in lk_X11_217 st_X11_in rfl rfl (Nat.le_of_ble_eq_true rfl) ⟨by decide, by decide⟩ ⟨Nat.zero_le _, Nat.zero_le _⟩ dX11_number_67 ?_
      refine r_if_ne 87 dX11_number_70 (by decide) (fun c70 => ?_) (fun c70 => ?_)
      · have h := Sat_neg c70 h
        exact r_sub [1, 2, 3, 4, 0] rfl (J87 l2_60 l4_60 k0_60 h)
      · have h := Sat_pos c70 h
        refine r_aload_n dX11_number_73 1 rfl ?_
        obtain ⟨x74, e74, h⟩ := Sat_bind h
        refine r_getP fk_X11_7 rfl e74 dX11_number_74 ?_
        refine r_iload dX11_number_77 4 rfl ?_
        obtain ⟨x79, e79, h⟩ := Sat_bind h
        refine r_baload e79 dX11_number_79 ?_
        refine r_bipush (v := 111) dX11_number_80 (by decide) ?_
        refine r_icmp_eq 87 dX11_number_82 (by decide) (fun c82 => ?_) (fun c82 => ?_)
        · have h := Sat_pos c82 h
          exact r_sub [1, 2, 3, 4, 0] rfl (J87 l2_60 l4_60 k0_60 h)
        · have h := Sat_neg c82 h
          have h := hX27 _ (Sat_some h)
          refine r_iconst (v := -1) dX11_number_85 (by decide) ?_
          exact r_ireturn rfl (by rw [← Sat_eq h]; exact ⟨rfl, rfl⟩) dX11_number_86
    refine r_iload dX11_number_27 3 rfl ?_
    refine r_iload_n dX11_number_29 1 rfl ?_
    refine r_icmp_ge 104 dX11_number_30 (by decide) (fun c30 => ?_) (fun c30 => ?_)
    · have h := Sat_pos c30 h
      have h := hX27 _ (Sat_some h)
      exact r_sub [0, 2] rfl (J104 a0 s27.1 μ7 h)
    · have h := Sat_neg c30 h
      refine r_aload_n dX11_number_33 0 rfl ?_
      obtain ⟨x34, e34, h⟩ := Sat_bind h
      refine r_getP fk_X11_7 rfl e34 dX11_number_34 ?_
      refine r_iload dX11_number_37 3 rfl ?_
      obtain ⟨x39, e39, h⟩ := Sat_bind h
      refine r_baload e39 dX11_number_39 ?_
      refine r_bipush (v := 111) dX11_number_40 (by decide) ?_
      refine r_icmp_ne 50 dX11_number_42 (by decide) (fun c42 => ?_) (fun c42 => ?_)
      · have h := Sat_neg c42 h
        refine r_aload_n dX11_number_50 0 rfl ?_
        obtain ⟨x51, e51, h⟩ := Sat_bind h
        refine r_getP fk_X11_7 rfl e51 dX11_number_51 ?_
        refine r_iload dX11_number_54 3 rfl ?_
        obtain ⟨x56, e56, h⟩ := Sat_bind h
        refine r_baload e56 dX11_number_56 ?_
        refine r_bipush (v := 48) dX11_number_57 (by decide) ?_
        refine r_isub dX11_number_59 ?_
        exact r_sub [0, 1, 2, 3] rfl (J60 s27.1 s27.2 (x56 - (48 : Int32)) h)
      · have h := Sat_pos c42 h
        refine r_bipush (v := 15) dX11_number_45 (by decide) ?_
        refine r_goto 60 dX11_number_47 (by decide) ?_
        exact r_sub [0, 1, 2, 3] rfl (J60 s27.1 s27.2 (15 : Int32) h)
  · have h := Sat_neg c17 h
    refine r_iconst (v := -1) dX11_number_20 (by decide) ?_
    exact r_ireturn rfl (by rw [← Sat_eq h]; exact ⟨rfl, rfl⟩) dX11_number_21
theorem dX11_saidTo_0 : decode cX11_saidTo 0 = .ok (.aload_n 0, 1) := by decide +kernel
theorem dX11_saidTo_1 : decode cX11_saidTo 1 = .ok (.iconst 1, 1) := by decide +kernel
theorem dX11_saidTo_2 : decode cX11_saidTo 2 = .ok (.putfield 410, 3) := by decide +kernel
theorem dX11_saidTo_5 : decode cX11_saidTo 5 = .ok (.aload_n 0, 1) := by decide +kernel
theorem dX11_saidTo_6 : decode cX11_saidTo 6 = .ok (.getfield 121, 3) := by decide +kernel
theorem dX11_saidTo_9 : decode cX11_saidTo 9 = .ok (.iconst 0, 1) := by decide +kernel
theorem dX11_saidTo_10 : decode cX11_saidTo 10 = .ok (.iload_n 1, 1) := by decide +kernel
theorem dX11_saidTo_11 : decode cX11_saidTo 11 = .ok (.iastore, 1) := by decide +kernel
theorem dX11_saidTo_12 : decode cX11_saidTo 12 = .ok (.iload_n 1, 1) := by decide +kernel
theorem dX11_saidTo_13 : decode cX11_saidTo 13 = .ok (.istore 4, 2) := by decide +kernel
theorem dX11_saidTo_15 : decode cX11_saidTo 15 = .ok (.iload_n 3, 1) := by decide +kernel
theorem dX11_saidTo_16 : decode cX11_saidTo 16 = .ok (.istore 5, 2) := by decide +kernel
theorem dX11_saidTo_18 : decode cX11_saidTo 18 = .ok (.iload 5, 2) := by decide +kernel
theorem dX11_saidTo_20 : decode cX11_saidTo 20 = .ok (.bipush 28, 2) := by decide +kernel
theorem dX11_saidTo_22 : decode cX11_saidTo 22 = .ok (.if_icmp .ge 79, 3) := by decide +kernel
theorem dX11_saidTo_25 : decode cX11_saidTo 25 = .ok (.aload_n 0, 1) := by decide +kernel
theorem dX11_saidTo_26 : decode cX11_saidTo 26 = .ok (.iload 4, 2) := by decide +kernel
theorem dX11_saidTo_28 : decode cX11_saidTo 28 = .ok (.iload 5, 2) := by decide +kernel
theorem dX11_saidTo_30 : decode cX11_saidTo 30 = .ok (.invokevirtual 350, 3) := by decide +kernel
theorem dX11_saidTo_33 : decode cX11_saidTo 33 = .ok (.ifCond .eq 6, 3) := by decide +kernel
theorem dX11_saidTo_36 : decode cX11_saidTo 36 = .ok (.goto 59, 3) := by decide +kernel
theorem dX11_saidTo_39 : decode cX11_saidTo 39 = .ok (.aload_n 0, 1) := by decide +kernel
theorem dX11_saidTo_40 : decode cX11_saidTo 40 = .ok (.iload 4, 2) := by decide +kernel
theorem dX11_saidTo_42 : decode cX11_saidTo 42 = .ok (.invokevirtual 413, 3) := by decide +kernel
theorem dX11_saidTo_45 : decode cX11_saidTo 45 = .ok (.istore 6, 2) := by decide +kernel
theorem dX11_saidTo_47 : decode cX11_saidTo 47 = .ok (.iload 6, 2) := by decide +kernel
theorem dX11_saidTo_49 : decode cX11_saidTo 49 = .ok (.iconst (-1), 1) := by decide +kernel
theorem dX11_saidTo_50 : decode cX11_saidTo 50 = .ok (.if_icmp .eq 9, 3) := by decide +kernel
theorem dX11_saidTo_53 : decode cX11_saidTo 53 = .ok (.iload 6, 2) := by decide +kernel
theorem dX11_saidTo_55 : decode cX11_saidTo 55 = .ok (.iload_n 1, 1) := by decide +kernel
theorem dX11_saidTo_56 : decode cX11_saidTo 56 = .ok (.if_icmp .ne 5, 3) := by decide +kernel
theorem dX11_saidTo_59 : decode cX11_saidTo 59 = .ok (.iconst (-1), 1) := by decide +kernel
theorem dX11_saidTo_60 : decode cX11_saidTo 60 = .ok (.ireturn, 1) := by decide +kernel
theorem dX11_saidTo_61 : decode cX11_saidTo 61 = .ok (.aload_n 0, 1) := by decide +kernel
theorem dX11_saidTo_62 : decode cX11_saidTo 62 = .ok (.getfield 121, 3) := by decide +kernel
theorem dX11_saidTo_65 : decode cX11_saidTo 65 = .ok (.aload_n 0, 1) := by decide +kernel
theorem dX11_saidTo_66 : decode cX11_saidTo 66 = .ok (.getfield 410, 3) := by decide +kernel
theorem dX11_saidTo_69 : decode cX11_saidTo 69 = .ok (.iload 6, 2) := by decide +kernel
theorem dX11_saidTo_71 : decode cX11_saidTo 71 = .ok (.iastore, 1) := by decide +kernel
theorem dX11_saidTo_72 : decode cX11_saidTo 72 = .ok (.aload_n 0, 1) := by decide +kernel
theorem dX11_saidTo_73 : decode cX11_saidTo 73 = .ok (.dup, 1) := by decide +kernel
theorem dX11_saidTo_74 : decode cX11_saidTo 74 = .ok (.getfield 410, 3) := by decide +kernel
theorem dX11_saidTo_77 : decode cX11_saidTo 77 = .ok (.iconst 1, 1) := by decide +kernel
theorem dX11_saidTo_78 : decode cX11_saidTo 78 = .ok (.iadd, 1) := by decide +kernel
theorem dX11_saidTo_79 : decode cX11_saidTo 79 = .ok (.putfield 410, 3) := by decide +kernel
theorem dX11_saidTo_82 : decode cX11_saidTo 82 = .ok (.iload 6, 2) := by decide +kernel
theorem dX11_saidTo_84 : decode cX11_saidTo 84 = .ok (.iload_n 2, 1) := by decide +kernel
theorem dX11_saidTo_85 : decode cX11_saidTo 85 = .ok (.if_icmp .ne 6, 3) := by decide +kernel
theorem dX11_saidTo_88 : decode cX11_saidTo 88 = .ok (.iload 5, 2) := by decide +kernel
theorem dX11_saidTo_90 : decode cX11_saidTo 90 = .ok (.ireturn, 1) := by decide +kernel
theorem dX11_saidTo_91 : decode cX11_saidTo 91 = .ok (.iload 6, 2) := by decide +kernel
theorem dX11_saidTo_93 : decode cX11_saidTo 93 = .ok (.istore 4, 2) := by decide +kernel
theorem dX11_saidTo_95 : decode cX11_saidTo 95 = .ok (.iinc 5 1, 3) := by decide +kernel
theorem dX11_saidTo_98 : decode cX11_saidTo 98 = .ok (.goto (-80), 3) := by decide +kernel
theorem dX11_saidTo_101 : decode cX11_saidTo 101 = .ok (.iconst (-1), 1) := by decide +kernel
theorem dX11_saidTo_102 : decode cX11_saidTo 102 = .ok (.ireturn, 1) := by decide +kernel
noncomputable def f_X11_saidTo_J95 (a0 : Nat) (l1 : Int32) (l2 : Int32) (l4 : Int32) (l5 : Int32) (μ : Mm) : Option ((Int32 × Int32 × Mm) ⊕ ((Mm) ⊕ ((Int32 × Mm) ⊕ (Mm)))) :=
  (some (l5 + (1 : Int32))).bind fun v95 => some (.inl (l4, v95, μ))
noncomputable def f_X11_saidTo_L18 (a0 : Nat) (l1 : Int32) (l2 : Int32) (s18 : Int32 × Int32 × Mm) : Option ((Int32 × Int32 × Mm) ⊕ ((Mm) ⊕ ((Int32 × Mm) ⊕ (Mm)))) :=
  if (28 : Int32) ≤ s18.2.1 then some (.inr (.inr (.inr s18.2.2))) else (f_X11_isDull a0 s18.1 s18.2.1 s18.2.2).bind fun x30 => if x30 = 0 then (f_X11_dreamer a0 s18.1 s18.2.2).bind fun x42 => if x42 = (-1 : Int32) then some (.inr (.inl s18.2.2)) else if x42 = l1 then some (.inr (.inl s18.2.2)) else (gf_P 12 59 a0 s18.2.2).bind fun x62 => (gf_I 12 60 a0 s18.2.2).bind fun x66 => (pa_I x62 x66 x42 s18.2.2).bind fun μ71 => (gf_I 12 60 a0 μ71).bind fun x74 => (pf_I 12 60 a0 (x74 + (1 : Int32)) μ71).bind fun μ79 => if x42 = l2 then some (.inr (.inr (.inl (s18.2.1, μ79)))) else f_X11_saidTo_J95 a0 l1 l2 x42 s18.2.1 μ79 else f_X11_saidTo_J95 a0 l1 l2 s18.1 s18.2.1 s18.2.2
noncomputable def f_X11_saidTo (a0 : Nat) (l1 : Int32) (l2 : Int32) (l3 : Int32) (μ : Mm) : Option (Int32 × Mm) :=
  if (mm_K μ a0).1 = 12 then (pf_I 12 60 a0 (1 : Int32) μ).bind fun μ2 => (gf_P 12 59 a0 μ2).bind fun x6 => (pa_I x6 (0 : Int32) l1 μ2).bind fun μ11 => (whl (f_X11_saidTo_L18 a0 l1 l2) (l1, l3, μ11)).bind (sm (fun b18 => some ((-1 : Int32), b18)) (sm (fun b18 => some (b18.1, b18.2)) (fun b18 => some ((-1 : Int32), b18)))) else none
abbrev Rn_X11_saidTo (G : Gv) (Q : Option Value → Mm → Prop) (pc : Nat) (lv : List (Nat × Value)) (st : List Value) (μ : Mm) : Prop := Rn G RX11 cX11_saidTo 7 (some .int) "saidTo" (rmd 2 0 0) (Zm G 0 0 Q) 0 0 pc lv st μ
set_option maxRecDepth 100000 in
set_option maxHeartbeats 4000000 in
theorem m_X11_saidTo {G : Gv} (a0 : Nat) (l1 : Int32) (l2 : Int32) (l3 : Int32) (μ : Mm) {r : (Int32 × Mm)} (hx : f_X11_saidTo a0 l1 l2 l3 μ = some r) : Mt G yX11_saidTo cX11_saidTo 7 (some .int) 2 0 0 [.ref a0, .int l1, .int l2, .int l3] μ (fun v μ' => v = some (.int r.1) ∧ μ' = r.2) := by
  refine Mt.of (by decide) (Nat.le_of_ble_eq_true rfl) ?_
  show Rn_X11_saidTo G (fun v μ' => v = some (.int r.1) ∧ μ' = r.2) 0 [(0, .ref a0), (1, .int l1), (2, .int l2), (3, .int l3)] [] μ
  obtain ⟨_, h⟩ := Sat_ifp (show Sat (f_X11_saidTo a0 l1 l2 l3 μ) (fun x => x = r) from ⟨_, hx, rfl⟩)
  refine r_aload_n dX11_saidTo_0 0 rfl ?_
  refine r_iconst (v := 1) dX11_saidTo_1 (by decide) ?_
  obtain ⟨μ2, e2, h⟩ := Sat_bind h
  refine r_putI fk_X11_410 rfl rfl e2 dX11_saidTo_2 ?_
  refine r_aload_n dX11_saidTo_5 0 rfl ?_
  obtain ⟨x6, e6, h⟩ := Sat_bind h
  refine r_getP fk_X11_121 rfl e6 dX11_saidTo_6 ?_
  refine r_iconst (v := 0) dX11_saidTo_9 (by decide) ?_
  refine r_iload_n dX11_saidTo_10 1 rfl ?_
  obtain ⟨μ11, e11, h⟩ := Sat_bind h
  refine r_iastore e11 dX11_saidTo_11 ?_
  refine r_iload_n dX11_saidTo_12 1 rfl ?_
  refine r_istore (lv' := [(4, .int l1), (0, .ref a0), (1, .int l1), (2, .int l2), (3, .int l3)]) dX11_saidTo_13 (by decide) rfl ?_
  refine r_iload_n dX11_saidTo_15 4 rfl ?_
  refine r_istore (lv' := [(5, .int l3), (4, .int l1), (0, .ref a0), (1, .int l1), (2, .int l2), (3, .int l3)]) dX11_saidTo_16 (by decide) rfl ?_
  refine r_sub (lv' := [(0, .ref a0), (1, .int l1), (2, .int l2), (4, .int l1), (5, .int l3)]) [2, 3, 4, 1, 0] rfl ?_
  refine whl_K (s0 := ((l1, l3, μ11) : Int32 × Int32 × Mm)) (RR := fun (s18 : Int32 × Int32 × Mm) => Rn_X11_saidTo G (fun v μ' => v = some (.int r.1) ∧ μ' = r.2) 18 [(0, .ref a0), (1, .int l1), (2, .int l2), (4, .int s18.1), (5, .int s18.2.1)] [] s18.2.2) ?_ (Sat_bindK h)
  intro s18 K18 hI18 hX18 h
  have J95 : ∀ (l4_95 : Int32) (l5_95 : Int32) (μ_95 : Mm), Sat (f_X11_saidTo_J95 a0 l1 l2 l4_95 l5_95 μ_95) K18 → Rn_X11_saidTo G (fun v μ' => v = some (.int r.1) ∧ μ' = r.2) 95 [(0, .ref a0), (1, .int l1), (2, .int l2), (4, .int l4_95), (5, .int l5_95)] [] μ_95 := by
    intro l4_95 l5_95 μ_95 h
    obtain ⟨v95, e95, h⟩ := Sat_bind h
    refine r_iinc (j := 4) (v := v95) (lv' := [(5, .int v95), (0, .ref a0), (1, .int l1), (2, .int l2), (4, .int l4_95)]) dX11_saidTo_95 rfl (iinc_v e95 (by decide)) (by decide) rfl ?_
    refine r_goto 18 dX11_saidTo_98 (by decide) ?_
    exact r_sub [1, 2, 3, 4, 0] rfl (hI18 _ (Sat_some h))
  refine r_iload dX11_saidTo_18 4 rfl ?_
  refine r_bipush (v := 28) dX11_saidTo_20 (by decide) ?_
  refine r_icmp_ge 101 dX11_saidTo_22 (by decide) (fun c22 => ?_) (fun c22 => ?_)
  · have h := Sat_pos c22 h
    have h := hX18 _ (Sat_some h)
    refine r_iconst (v := -1) dX11_saidTo_101 (by decide) ?_
    exact r_ireturn rfl (by rw [← Sat_eq h]; exact ⟨rfl, rfl⟩) dX11_saidTo_102
  · have h := Sat_neg c22 h
    refine r_aload_n dX11_saidTo_25 0 rfl ?_
    refine r_iload dX11_saidTo_26 3 rfl ?_
    refine r_iload dX11_saidTo_28 4 rfl ?_
    obtain ⟨x30, e30, h⟩ := Sat_bind h
    refine r_cV (t := 12) [.int s18.1, .int s18.2.1] [] (m_X11_isDull a0 s18.1 s18.2.1 s18.2.2 e30) ck_X11_isDull lk_X11_350 in_X11_isDull se_X11_isDull (kd_of e30) ⟨rfl, by decide, by decide⟩ rfl rfl (Nat.le_of_ble_eq_true rfl) ⟨by decide, by decide⟩ ⟨Nat.zero_le _, Nat.zero_le _⟩ dX11_saidTo_30 ?_
    refine r_if_eq 39 dX11_saidTo_33 (by decide) (fun c33 => ?_) (fun c33 => ?_)
    · have h := Sat_pos c33 h
      refine r_aload_n dX11_saidTo_39 0 rfl ?_
      refine r_iload dX11_saidTo_40 3 rfl ?_
      obtain ⟨x42, e42, h⟩ := Sat_bind h
      refine r_cV (t := 12) [.int s18.1] [] (m_X11_dreamer a0 s18.1 s18.2.2 e42) ck_X11_dreamer lk_X11_413 in_X11_dreamer se_X11_dreamer (kd_of e42) ⟨rfl, by decide, by decide⟩ rfl rfl (Nat.le_of_ble_eq_true rfl) ⟨by decide, by decide⟩ ⟨Nat.zero_le _, Nat.zero_le _⟩ dX11_saidTo_42 ?_
      refine r_istore (lv' := [(6, .int x42), (0, .ref a0), (1, .int l1), (2, .int l2), (4, .int s18.1), (5, .int s18.2.1)]) dX11_saidTo_45 (by decide) rfl ?_
      refine r_iload dX11_saidTo_47 0 rfl ?_
      refine r_iconst (v := -1) dX11_saidTo_49 (by decide) ?_
      refine r_icmp_eq 59 dX11_saidTo_50 (by decide) (fun c50 => ?_) (fun c50 => ?_)
      · have h := Sat_pos c50 h
        have h := hX18 _ (Sat_some h)
        refine r_iconst (v := -1) dX11_saidTo_59 (by decide) ?_
        exact r_ireturn rfl (by rw [← Sat_eq h]; exact ⟨rfl, rfl⟩) dX11_saidTo_60
      · have h := Sat_neg c50 h
        refine r_iload dX11_saidTo_53 0 rfl ?_
        refine r_iload_n dX11_saidTo_55 2 rfl ?_
        refine r_icmp_ne 61 dX11_saidTo_56 (by decide) (fun c56 => ?_) (fun c56 => ?_)
        · have h := Sat_neg c56 h
          refine r_aload_n dX11_saidTo_61 1 rfl ?_
          obtain ⟨x62, e62, h⟩ := Sat_bind h
          refine r_getP fk_X11_121 rfl e62 dX11_saidTo_62 ?_
          refine r_aload_n dX11_saidTo_65 1 rfl ?_
          obtain ⟨x66, e66, h⟩ := Sat_bind h
          refine r_getI fk_X11_410 rfl e66 dX11_saidTo_66 ?_
          refine r_iload dX11_saidTo_69 0 rfl ?_
          obtain ⟨μ71, e71, h⟩ := Sat_bind h
          refine r_iastore e71 dX11_saidTo_71 ?_
          refine r_aload_n dX11_saidTo_72 1 rfl ?_
          refine r_dup dX11_saidTo_73 rfl ?_
          obtain ⟨x74, e74, h⟩ := Sat_bind h
          refine r_getI fk_X11_410 rfl e74 dX11_saidTo_74 ?_
          refine r_iconst (v := 1) dX11_saidTo_77 (by decide) ?_
          refine r_iadd dX11_saidTo_78 ?_
          obtain ⟨μ79, e79, h⟩ := Sat_bind h
          refine r_putI fk_X11_410 rfl rfl e79 dX11_saidTo_79 ?_
          refine r_iload dX11_saidTo_82 0 rfl ?_
          refine r_iload_n dX11_saidTo_84 3 rfl ?_
          refine r_icmp_ne 91 dX11_saidTo_85 (by decide) (fun c85 => ?_) (fun c85 => ?_)
          · have h := Sat_neg c85 h
            refine r_iload dX11_saidTo_91 0 rfl ?_
            refine r_istore (lv' := [(4, .int x42), (6, .int x42), (0, .ref a0), (1, .int l1), (2, .int l2), (5, .int s18.2.1)]) dX11_saidTo_93 (by decide) rfl ?_
            exact r_sub [2, 3, 4, 0, 5] rfl (J95 x42 s18.2.1 μ79 h)
          · have h := Sat_pos c85 h
            have h := hX18 _ (Sat_some h)
            refine r_iload dX11_saidTo_88 5 rfl ?_
            exact r_ireturn rfl (by rw [← Sat_eq h]; exact ⟨rfl, rfl⟩) dX11_saidTo_90
        · have h := Sat_pos c56 h
          have h := hX18 _ (Sat_some h)
          refine r_iconst (v := -1) dX11_saidTo_59 (by decide) ?_
          exact r_ireturn rfl (by rw [← Sat_eq h]; exact ⟨rfl, rfl⟩) dX11_saidTo_60
    · have h := Sat_neg c33 h
      refine r_goto 95 dX11_saidTo_36 (by decide) ?_
      exact r_sub [0, 1, 2, 3, 4] rfl (J95 s18.1 s18.2.1 s18.2.2 h)
theorem dX11_over_0 : decode cX11_over 0 = .ok (.aload_n 0, 1) := by decide +kernel
theorem dX11_over_1 : decode cX11_over 1 = .ok (.iload_n 1, 1) := by decide +kernel
theorem dX11_over_2 : decode cX11_over 2 = .ok (.iload_n 2, 1) := by decide +kernel
theorem dX11_over_3 : decode cX11_over 3 = .ok (.iload_n 3, 1) := by decide +kernel
theorem dX11_over_4 : decode cX11_over 4 = .ok (.invokevirtual 416, 3) := by decide +kernel
theorem dX11_over_7 : decode cX11_over 7 = .ok (.ifCond .eq 8, 3) := by decide +kernel
theorem dX11_over_10 : decode cX11_over 10 = .ok (.iload 4, 2) := by decide +kernel
theorem dX11_over_12 : decode cX11_over 12 = .ok (.ifCond .ge 6, 3) := by decide +kernel
theorem dX11_over_15 : decode cX11_over 15 = .ok (.bipush (-2), 2) := by decide +kernel
theorem dX11_over_17 : decode cX11_over 17 = .ok (.ireturn, 1) := by decide +kernel
theorem dX11_over_18 : decode cX11_over 18 = .ok (.iload_n 1, 1) := by decide +kernel
theorem dX11_over_19 : decode cX11_over 19 = .ok (.iload_n 2, 1) := by decide +kernel
theorem dX11_over_20 : decode cX11_over 20 = .ok (.if_icmp .ne 6, 3) := by decide +kernel
theorem dX11_over_23 : decode cX11_over 23 = .ok (.bipush (-4), 2) := by decide +kernel
theorem dX11_over_25 : decode cX11_over 25 = .ok (.ireturn, 1) := by decide +kernel
theorem dX11_over_26 : decode cX11_over 26 = .ok (.aload_n 0, 1) := by decide +kernel
theorem dX11_over_27 : decode cX11_over 27 = .ok (.iload_n 1, 1) := by decide +kernel
theorem dX11_over_28 : decode cX11_over 28 = .ok (.iload_n 2, 1) := by decide +kernel
theorem dX11_over_29 : decode cX11_over 29 = .ok (.iload_n 3, 1) := by decide +kernel
theorem dX11_over_30 : decode cX11_over 30 = .ok (.invokevirtual 419, 3) := by decide +kernel
theorem dX11_over_33 : decode cX11_over 33 = .ok (.iconst (-1), 1) := by decide +kernel
theorem dX11_over_34 : decode cX11_over 34 = .ok (.if_icmp .eq 12, 3) := by decide +kernel
theorem dX11_over_37 : decode cX11_over 37 = .ok (.iload 4, 2) := by decide +kernel
theorem dX11_over_39 : decode cX11_over 39 = .ok (.aload_n 0, 1) := by decide +kernel
theorem dX11_over_40 : decode cX11_over 40 = .ok (.getfield 410, 3) := by decide +kernel
theorem dX11_over_43 : decode cX11_over 43 = .ok (.if_icmp .lt 7, 3) := by decide +kernel
theorem dX11_over_46 : decode cX11_over 46 = .ok (.iconst (-1), 1) := by decide +kernel
theorem dX11_over_47 : decode cX11_over 47 = .ok (.goto 10, 3) := by decide +kernel
theorem dX11_over_50 : decode cX11_over 50 = .ok (.aload_n 0, 1) := by decide +kernel
theorem dX11_over_51 : decode cX11_over 51 = .ok (.getfield 121, 3) := by decide +kernel
theorem dX11_over_54 : decode cX11_over 54 = .ok (.iload 4, 2) := by decide +kernel
theorem dX11_over_56 : decode cX11_over 56 = .ok (.iaload, 1) := by decide +kernel
theorem dX11_over_57 : decode cX11_over 57 = .ok (.ireturn, 1) := by decide +kernel
noncomputable def f_X11_over_J46  (μ : Mm) : Option (Int32 × Mm) :=
  some ((-1 : Int32), μ)
noncomputable def f_X11_over (a0 : Nat) (l1 : Int32) (l2 : Int32) (l3 : Int32) (l4 : Int32) (μ : Mm) : Option (Int32 × Mm) :=
  if (mm_K μ a0).1 = 12 then (f_X11_isSign a0 l1 l2 l3 μ).bind fun x4 => if x4 = 0 then some ((-2 : Int32), μ) else if 0 ≤ l4 then if l1 = l2 then some ((-4 : Int32), μ) else (f_X11_saidTo a0 l1 l2 l3 μ).bind fun x30 => if x30.1 = (-1 : Int32) then f_X11_over_J46 x30.2 else (gf_I 12 60 a0 x30.2).bind fun x40 => if l4 < x40 then (gf_P 12 59 a0 x30.2).bind fun x51 => (ga_I x51 l4 x30.2).bind fun x56 => some (x56, x30.2) else f_X11_over_J46 x30.2 else some ((-2 : Int32), μ) else none
abbrev Rn_X11_over (G : Gv) (Q : Option Value → Mm → Prop) (pc : Nat) (lv : List (Nat × Value)) (st : List Value) (μ : Mm) : Prop := Rn G RX11 cX11_over 5 (some .int) "over" (rmd 3 0 0) (Zm G 0 0 Q) 0 0 pc lv st μ
set_option maxRecDepth 100000 in
set_option maxHeartbeats 4000000 in
theorem m_X11_over {G : Gv} (a0 : Nat) (l1 : Int32) (l2 : Int32) (l3 : Int32) (l4 : Int32) (μ : Mm) {r : (Int32 × Mm)} (hx : f_X11_over a0 l1 l2 l3 l4 μ = some r) : Mt G yX11_over cX11_over 5 (some .int) 3 0 0 [.ref a0, .int l1, .int l2, .int l3, .int l4] μ (fun v μ' => v = some (.int r.1) ∧ μ' = r.2) := by
  refine Mt.of (by decide) (Nat.le_of_ble_eq_true rfl) ?_
  show Rn_X11_over G (fun v μ' => v = some (.int r.1) ∧ μ' = r.2) 0 [(0, .ref a0), (1, .int l1), (2, .int l2), (3, .int l3), (4, .int l4)] [] μ
  obtain ⟨_, h⟩ := Sat_ifp (show Sat (f_X11_over a0 l1 l2 l3 l4 μ) (fun x => x = r) from ⟨_, hx, rfl⟩)
  have J46 : ∀ (μ_46 : Mm), Sat (f_X11_over_J46 μ_46) (fun x => x = r) → Rn_X11_over G (fun v μ' => v = some (.int r.1) ∧ μ' = r.2) 46 [] [] μ_46 := by
    intro μ_46 h
    refine r_iconst (v := -1) dX11_over_46 (by decide) ?_
    refine r_goto 57 dX11_over_47 (by decide) ?_
    exact r_ireturn rfl (by rw [← Sat_eq h]; exact ⟨rfl, rfl⟩) dX11_over_57
  refine r_aload_n dX11_over_0 0 rfl ?_
  refine r_iload_n dX11_over_1 1 rfl ?_
  refine r_iload_n dX11_over_2 2 rfl ?_
  refine r_iload_n dX11_over_3 3 rfl ?_
  obtain ⟨x4, e4, h⟩ := Sat_bind h
  refine r_cV (t := 12) [.int l1, .int l2, .int l3] [] (m_X11_isSign a0 l1 l2 l3 μ e4) ck_X11_isSign lk_X11_416 in_X11_isSign se_X11_isSign (kd_of e4) ⟨rfl, by decide, by decide⟩ rfl rfl (Nat.le_of_ble_eq_true rfl) ⟨by decide, by decide⟩ ⟨Nat.zero_le _, Nat.zero_le _⟩ dX11_over_4 ?_
  refine r_if_eq 15 dX11_over_7 (by decide) (fun c7 => ?_) (fun c7 => ?_)
  · have h := Sat_pos c7 h
    refine r_bipush (v := -2) dX11_over_15 (by decide) ?_
    exact r_ireturn rfl (by rw [← Sat_eq h]; exact ⟨rfl, rfl⟩) dX11_over_17
  · have h := Sat_neg c7 h
    refine r_iload dX11_over_10 4 rfl ?_
    refine r_if_ge 18 dX11_over_12 (by decide) (fun c12 => ?_) (fun c12 => ?_)
    · have h := Sat_pos c12 h
      refine r_iload_n dX11_over_18 1 rfl ?_
      refine r_iload_n dX11_over_19 2 rfl ?_
      refine r_icmp_ne 26 dX11_over_20 (by decide) (fun c20 => ?_) (fun c20 => ?_)
      · have h := Sat_neg c20 h
        refine r_aload_n dX11_over_26 0 rfl ?_
        refine r_iload_n dX11_over_27 1 rfl ?_
        refine r_iload_n dX11_over_28 2 rfl ?_
        refine r_iload_n dX11_over_29 3 rfl ?_
        obtain ⟨x30, e30, h⟩ := Sat_bind h
        refine r_cV (t := 12) [.int l1, .int l2, .int l3] [] (m_X11_saidTo a0 l1 l2 l3 μ e30) ck_X11_saidTo lk_X11_419 in_X11_saidTo se_X11_saidTo (kd_of e30) ⟨rfl, by decide, by decide⟩ rfl rfl (Nat.le_of_ble_eq_true rfl) ⟨by decide, by decide⟩ ⟨Nat.zero_le _, Nat.zero_le _⟩ dX11_over_30 ?_
        refine r_iconst (v := -1) dX11_over_33 (by decide) ?_
        refine r_icmp_eq 46 dX11_over_34 (by decide) (fun c34 => ?_) (fun c34 => ?_)
        · have h := Sat_pos c34 h
          exact r_sub [] rfl (J46 x30.2 h)
        · have h := Sat_neg c34 h
          refine r_iload dX11_over_37 4 rfl ?_
          refine r_aload_n dX11_over_39 0 rfl ?_
          obtain ⟨x40, e40, h⟩ := Sat_bind h
          refine r_getI fk_X11_410 rfl e40 dX11_over_40 ?_
          refine r_icmp_lt 50 dX11_over_43 (by decide) (fun c43 => ?_) (fun c43 => ?_)
          · have h := Sat_pos c43 h
            refine r_aload_n dX11_over_50 0 rfl ?_
            obtain ⟨x51, e51, h⟩ := Sat_bind h
            refine r_getP fk_X11_121 rfl e51 dX11_over_51 ?_
            refine r_iload dX11_over_54 4 rfl ?_
            obtain ⟨x56, e56, h⟩ := Sat_bind h
            refine r_iaload e56 dX11_over_56 ?_
            exact r_ireturn rfl (by rw [← Sat_eq h]; exact ⟨rfl, rfl⟩) dX11_over_57
          · have h := Sat_neg c43 h
            exact r_sub [] rfl (J46 x30.2 h)
      · have h := Sat_pos c20 h
        refine r_bipush (v := -4) dX11_over_23 (by decide) ?_
        exact r_ireturn rfl (by rw [← Sat_eq h]; exact ⟨rfl, rfl⟩) dX11_over_25
    · have h := Sat_neg c12 h
      refine r_bipush (v := -2) dX11_over_15 (by decide) ?_
      exact r_ireturn rfl (by rw [← Sat_eq h]; exact ⟨rfl, rfl⟩) dX11_over_17
theorem dX11_parts_0 : decode cX11_parts 0 = .ok (.iload_n 1, 1) := by decide +kernel
theorem dX11_parts_1 : decode cX11_parts 1 = .ok (.iconst 0, 1) := by decide +kernel
theorem dX11_parts_2 : decode cX11_parts 2 = .ok (.bipush 20, 2) := by decide +kernel
theorem dX11_parts_4 : decode cX11_parts 4 = .ok (.invokestatic 217, 3) := by decide +kernel
theorem dX11_parts_7 : decode cX11_parts 7 = .ok (.ifCond .eq 13, 3) := by decide +kernel
theorem dX11_parts_10 : decode cX11_parts 10 = .ok (.iload_n 2, 1) := by decide +kernel
theorem dX11_parts_11 : decode cX11_parts 11 = .ok (.iconst 0, 1) := by decide +kernel
theorem dX11_parts_12 : decode cX11_parts 12 = .ok (.bipush 10, 2) := by decide +kernel
theorem dX11_parts_14 : decode cX11_parts 14 = .ok (.invokestatic 217, 3) := by decide +kernel
theorem dX11_parts_17 : decode cX11_parts 17 = .ok (.ifCond .ne 7, 3) := by decide +kernel
theorem dX11_parts_20 : decode cX11_parts 20 = .ok (.ldc2_w 441, 3) := by decide +kernel
theorem dX11_parts_23 : decode cX11_parts 23 = .ok (.lreturn, 1) := by decide +kernel
theorem dX11_parts_24 : decode cX11_parts 24 = .ok (.iconst 0, 1) := by decide +kernel
theorem dX11_parts_25 : decode cX11_parts 25 = .ok (.istore_n 3, 1) := by decide +kernel
theorem dX11_parts_26 : decode cX11_parts 26 = .ok (.iload_n 3, 1) := by decide +kernel
theorem dX11_parts_27 : decode cX11_parts 27 = .ok (.iload_n 1, 1) := by decide +kernel
theorem dX11_parts_28 : decode cX11_parts 28 = .ok (.if_icmp .gt 112, 3) := by decide +kernel
theorem dX11_parts_31 : decode cX11_parts 31 = .ok (.iconst 0, 1) := by decide +kernel
theorem dX11_parts_32 : decode cX11_parts 32 = .ok (.istore 4, 2) := by decide +kernel
theorem dX11_parts_34 : decode cX11_parts 34 = .ok (.iload 4, 2) := by decide +kernel
theorem dX11_parts_36 : decode cX11_parts 36 = .ok (.bipush 10, 2) := by decide +kernel
theorem dX11_parts_38 : decode cX11_parts 38 = .ok (.if_icmp .gt 96, 3) := by decide +kernel
theorem dX11_parts_41 : decode cX11_parts 41 = .ok (.iload_n 3, 1) := by decide +kernel
theorem dX11_parts_42 : decode cX11_parts 42 = .ok (.ifCond .ne 12, 3) := by decide +kernel
theorem dX11_parts_45 : decode cX11_parts 45 = .ok (.iload 4, 2) := by decide +kernel
theorem dX11_parts_47 : decode cX11_parts 47 = .ok (.ifCond .ne 7, 3) := by decide +kernel
theorem dX11_parts_50 : decode cX11_parts 50 = .ok (.lconst 1, 1) := by decide +kernel
theorem dX11_parts_51 : decode cX11_parts 51 = .ok (.goto 4, 3) := by decide +kernel
theorem dX11_parts_54 : decode cX11_parts 54 = .ok (.lconst 0, 1) := by decide +kernel
theorem dX11_parts_55 : decode cX11_parts 55 = .ok (.lstore 5, 2) := by decide +kernel
theorem dX11_parts_57 : decode cX11_parts 57 = .ok (.iload_n 3, 1) := by decide +kernel
theorem dX11_parts_58 : decode cX11_parts 58 = .ok (.iconst 1, 1) := by decide +kernel
theorem dX11_parts_59 : decode cX11_parts 59 = .ok (.if_icmp .le 55, 3) := by decide +kernel
theorem dX11_parts_62 : decode cX11_parts 62 = .ok (.iload_n 3, 1) := by decide +kernel
theorem dX11_parts_63 : decode cX11_parts 63 = .ok (.iconst 1, 1) := by decide +kernel
theorem dX11_parts_64 : decode cX11_parts 64 = .ok (.isub, 1) := by decide +kernel
theorem dX11_parts_65 : decode cX11_parts 65 = .ok (.i2l, 1) := by decide +kernel
theorem dX11_parts_66 : decode cX11_parts 66 = .ok (.aload_n 0, 1) := by decide +kernel
theorem dX11_parts_67 : decode cX11_parts 67 = .ok (.getfield 130, 3) := by decide +kernel
theorem dX11_parts_70 : decode cX11_parts 70 = .ok (.bipush 11, 2) := by decide +kernel
theorem dX11_parts_72 : decode cX11_parts 72 = .ok (.iload_n 3, 1) := by decide +kernel
theorem dX11_parts_73 : decode cX11_parts 73 = .ok (.iconst 1, 1) := by decide +kernel
theorem dX11_parts_74 : decode cX11_parts 74 = .ok (.isub, 1) := by decide +kernel
theorem dX11_parts_75 : decode cX11_parts 75 = .ok (.imul, 1) := by decide +kernel
theorem dX11_parts_76 : decode cX11_parts 76 = .ok (.iload 4, 2) := by decide +kernel
theorem dX11_parts_78 : decode cX11_parts 78 = .ok (.iadd, 1) := by decide +kernel
theorem dX11_parts_79 : decode cX11_parts 79 = .ok (.laload, 1) := by decide +kernel
theorem dX11_parts_80 : decode cX11_parts 80 = .ok (.lmul, 1) := by decide +kernel
theorem dX11_parts_81 : decode cX11_parts 81 = .ok (.iload 4, 2) := by decide +kernel
theorem dX11_parts_83 : decode cX11_parts 83 = .ok (.ifCond .le 27, 3) := by decide +kernel
theorem dX11_parts_86 : decode cX11_parts 86 = .ok (.iload_n 3, 1) := by decide +kernel
theorem dX11_parts_87 : decode cX11_parts 87 = .ok (.iconst 1, 1) := by decide +kernel
theorem dX11_parts_88 : decode cX11_parts 88 = .ok (.isub, 1) := by decide +kernel
theorem dX11_parts_89 : decode cX11_parts 89 = .ok (.i2l, 1) := by decide +kernel
theorem dX11_parts_90 : decode cX11_parts 90 = .ok (.aload_n 0, 1) := by decide +kernel
theorem dX11_parts_91 : decode cX11_parts 91 = .ok (.getfield 130, 3) := by decide +kernel
theorem dX11_parts_94 : decode cX11_parts 94 = .ok (.bipush 11, 2) := by decide +kernel
theorem dX11_parts_96 : decode cX11_parts 96 = .ok (.iload_n 3, 1) := by decide +kernel
theorem dX11_parts_97 : decode cX11_parts 97 = .ok (.iconst 2, 1) := by decide +kernel
theorem dX11_parts_98 : decode cX11_parts 98 = .ok (.isub, 1) := by decide +kernel
theorem dX11_parts_99 : decode cX11_parts 99 = .ok (.imul, 1) := by decide +kernel
theorem dX11_parts_100 : decode cX11_parts 100 = .ok (.iload 4, 2) := by decide +kernel
theorem dX11_parts_102 : decode cX11_parts 102 = .ok (.iadd, 1) := by decide +kernel
theorem dX11_parts_103 : decode cX11_parts 103 = .ok (.iconst 1, 1) := by decide +kernel
theorem dX11_parts_104 : decode cX11_parts 104 = .ok (.isub, 1) := by decide +kernel
theorem dX11_parts_105 : decode cX11_parts 105 = .ok (.laload, 1) := by decide +kernel
theorem dX11_parts_106 : decode cX11_parts 106 = .ok (.lmul, 1) := by decide +kernel
theorem dX11_parts_107 : decode cX11_parts 107 = .ok (.goto 4, 3) := by decide +kernel
theorem dX11_parts_110 : decode cX11_parts 110 = .ok (.lconst 0, 1) := by decide +kernel
theorem dX11_parts_111 : decode cX11_parts 111 = .ok (.ladd, 1) := by decide +kernel
theorem dX11_parts_112 : decode cX11_parts 112 = .ok (.lstore 5, 2) := by decide +kernel
theorem dX11_parts_114 : decode cX11_parts 114 = .ok (.aload_n 0, 1) := by decide +kernel
theorem dX11_parts_115 : decode cX11_parts 115 = .ok (.getfield 130, 3) := by decide +kernel
theorem dX11_parts_118 : decode cX11_parts 118 = .ok (.bipush 11, 2) := by decide +kernel
theorem dX11_parts_120 : decode cX11_parts 120 = .ok (.iload_n 3, 1) := by decide +kernel
theorem dX11_parts_121 : decode cX11_parts 121 = .ok (.imul, 1) := by decide +kernel
theorem dX11_parts_122 : decode cX11_parts 122 = .ok (.iload 4, 2) := by decide +kernel
theorem dX11_parts_124 : decode cX11_parts 124 = .ok (.iadd, 1) := by decide +kernel
theorem dX11_parts_125 : decode cX11_parts 125 = .ok (.lload 5, 2) := by decide +kernel
theorem dX11_parts_127 : decode cX11_parts 127 = .ok (.lastore, 1) := by decide +kernel
theorem dX11_parts_128 : decode cX11_parts 128 = .ok (.iinc 4 1, 3) := by decide +kernel
theorem dX11_parts_131 : decode cX11_parts 131 = .ok (.goto (-97), 3) := by decide +kernel
theorem dX11_parts_134 : decode cX11_parts 134 = .ok (.iinc 3 1, 3) := by decide +kernel
theorem dX11_parts_137 : decode cX11_parts 137 = .ok (.goto (-111), 3) := by decide +kernel
theorem dX11_parts_140 : decode cX11_parts 140 = .ok (.aload_n 0, 1) := by decide +kernel
theorem dX11_parts_141 : decode cX11_parts 141 = .ok (.getfield 130, 3) := by decide +kernel
theorem dX11_parts_144 : decode cX11_parts 144 = .ok (.bipush 11, 2) := by decide +kernel
theorem dX11_parts_146 : decode cX11_parts 146 = .ok (.iload_n 1, 1) := by decide +kernel
theorem dX11_parts_147 : decode cX11_parts 147 = .ok (.imul, 1) := by decide +kernel
theorem dX11_parts_148 : decode cX11_parts 148 = .ok (.iload_n 2, 1) := by decide +kernel
theorem dX11_parts_149 : decode cX11_parts 149 = .ok (.iadd, 1) := by decide +kernel
theorem dX11_parts_150 : decode cX11_parts 150 = .ok (.laload, 1) := by decide +kernel
theorem dX11_parts_151 : decode cX11_parts 151 = .ok (.lreturn, 1) := by decide +kernel
noncomputable def f_X11_parts_J140 (a0 : Nat) (l1 : Int32) (l2 : Int32) (μ : Mm) : Option (Int64 × Mm) :=
  (gf_P 12 63 a0 μ).bind fun x141 => (ga_L x141 (((11 : Int32) * l1) + l2) μ).bind fun x150 => some (x150, μ)
noncomputable def f_X11_parts_J134 (a0 : Nat) (l1 : Int32) (l2 : Int32) (l3 : Int32) (μ : Mm) : Option ((Int32 × Mm) ⊕ (Mm)) :=
  (some (l3 + (1 : Int32))).bind fun v134 => some (.inl (v134, μ))
noncomputable def f_X11_parts_J114 (a0 : Nat) (l1 : Int32) (l2 : Int32) (l3 : Int32) (l4 : Int32) (l5 : Int64) (μ : Mm) : Option ((Int32 × Mm) ⊕ (Mm)) :=
  (gf_P 12 63 a0 μ).bind fun x115 => (pa_L x115 (((11 : Int32) * l3) + l4) l5 μ).bind fun μ127 => (some (l4 + (1 : Int32))).bind fun v128 => some (.inl (v128, μ127))
noncomputable def f_X11_parts_J111 (a0 : Nat) (l1 : Int32) (l2 : Int32) (l3 : Int32) (l4 : Int32) (k0 : Int64) (k1 : Int64) (μ : Mm) : Option ((Int32 × Mm) ⊕ (Mm)) :=
  (some (k0 + k1)).bind fun v112 => f_X11_parts_J114 a0 l1 l2 l3 l4 v112 μ
noncomputable def f_X11_parts_J55 (a0 : Nat) (l1 : Int32) (l2 : Int32) (l3 : Int32) (l4 : Int32) (k0 : Int64) (μ : Mm) : Option ((Int32 × Mm) ⊕ (Mm)) :=
  if l3 ≤ (1 : Int32) then f_X11_parts_J114 a0 l1 l2 l3 l4 k0 μ else (gf_P 12 63 a0 μ).bind fun x67 => (ga_L x67 (((11 : Int32) * (l3 - (1 : Int32))) + l4) μ).bind fun x79 => if l4 ≤ 0 then f_X11_parts_J111 a0 l1 l2 l3 l4 (((l3 - (1 : Int32)).toInt64) * x79) (0 : Int64) μ else (gf_P 12 63 a0 μ).bind fun x91 => (ga_L x91 ((((11 : Int32) * (l3 - (2 : Int32))) + l4) - (1 : Int32)) μ).bind fun x105 => f_X11_parts_J111 a0 l1 l2 l3 l4 (((l3 - (1 : Int32)).toInt64) * x79) (((l3 - (1 : Int32)).toInt64) * x105) μ
noncomputable def f_X11_parts_J54 (a0 : Nat) (l1 : Int32) (l2 : Int32) (l3 : Int32) (l4 : Int32) (μ : Mm) : Option ((Int32 × Mm) ⊕ (Mm)) :=
  f_X11_parts_J55 a0 l1 l2 l3 l4 (0 : Int64) μ
noncomputable def f_X11_parts_L34 (a0 : Nat) (l1 : Int32) (l2 : Int32) (l3 : Int32) (s34 : Int32 × Mm) : Option ((Int32 × Mm) ⊕ (Mm)) :=
  if (10 : Int32) < s34.1 then some (.inr s34.2) else if l3 = 0 then if s34.1 = 0 then f_X11_parts_J55 a0 l1 l2 l3 s34.1 (1 : Int64) s34.2 else f_X11_parts_J54 a0 l1 l2 l3 s34.1 s34.2 else f_X11_parts_J54 a0 l1 l2 l3 s34.1 s34.2
noncomputable def f_X11_parts_L26 (a0 : Nat) (l1 : Int32) (l2 : Int32) (s26 : Int32 × Mm) : Option ((Int32 × Mm) ⊕ (Mm)) :=
  if l1 < s26.1 then some (.inr s26.2) else (whl (f_X11_parts_L34 a0 l1 l2 s26.1) ((0 : Int32), s26.2)).bind (fun b34 => f_X11_parts_J134 a0 l1 l2 s26.1 b34)
noncomputable def f_X11_parts (a0 : Nat) (l1 : Int32) (l2 : Int32) (μ : Mm) : Option (Int64 × Mm) :=
  if (mm_K μ a0).1 = 12 then (f_X11_in l1 (0 : Int32) (20 : Int32) μ).bind fun x4 => if x4 = 0 then some ((-2 : Int64), μ) else (f_X11_in l2 (0 : Int32) (10 : Int32) μ).bind fun x14 => if x14 = 0 then some ((-2 : Int64), μ) else (whl (f_X11_parts_L26 a0 l1 l2) ((0 : Int32), μ)).bind (fun b26 => f_X11_parts_J140 a0 l1 l2 b26) else none
abbrev Rn_X11_parts (G : Gv) (Q : Option Value → Mm → Prop) (pc : Nat) (lv : List (Nat × Value)) (st : List Value) (μ : Mm) : Prop := Rn G RX11 cX11_parts 7 (some .long) "parts" (rmd 1 0 0) (Zm G 0 0 Q) 0 0 pc lv st μ
set_option maxRecDepth 100000 in
set_option maxHeartbeats 4000000 in
theorem m_X11_parts {G : Gv} (a0 : Nat) (l1 : Int32) (l2 : Int32) (μ : Mm) {r : (Int64 × Mm)} (hx : f_X11_parts a0 l1 l2 μ = some r) : Mt G yX11_parts cX11_parts 7 (some .long) 1 0 0 [.ref a0, .int l1, .int l2] μ (fun v μ' => v = some (.long r.1) ∧ μ' = r.2) := by
  refine Mt.of (by decide) (Nat.le_of_ble_eq_true rfl) ?_
  show Rn_X11_parts G (fun v μ' => v = some (.long r.1) ∧ μ' = r.2) 0 [(0, .ref a0), (1, .int l1), (2, .int l2)] [] μ
  obtain ⟨_, h⟩ := Sat_ifp (show Sat (f_X11_parts a0 l1 l2 μ) (fun x => x = r) from ⟨_, hx, rfl⟩)
  have J140 : ∀ (a0_140 : Nat) (l1_140 : Int32) (l2_140 : Int32) (μ_140 : Mm), Sat (f_X11_parts_J140 a0_140 l1_140 l2_140 μ_140) (fun x => x = r) → Rn_X11_parts G (fun v μ' => v = some (.long r.1) ∧ μ' = r.2) 140 [(0, .ref a0_140), (1, .int l1_140), (2, .int l2_140)] [] μ_140 := by
    intro a0_140 l1_140 l2_140 μ_140 h
    refine r_aload_n dX11_parts_140 0 rfl ?_
    obtain ⟨x141, e141, h⟩ := Sat_bind h
    refine r_getP fk_X11_130 rfl e141 dX11_parts_141 ?_
    refine r_bipush (v := 11) dX11_parts_144 (by decide) ?_
    refine r_iload_n dX11_parts_146 1 rfl ?_
    refine r_imul dX11_parts_147 ?_
    refine r_iload_n dX11_parts_148 2 rfl ?_
    refine r_iadd dX11_parts_149 ?_
    obtain ⟨x150, e150, h⟩ := Sat_bind h
    refine r_laload e150 dX11_parts_150 ?_
    exact r_lreturn rfl (by rw [← Sat_eq h]; exact ⟨rfl, rfl⟩) dX11_parts_151
  refine r_iload_n dX11_parts_0 1 rfl ?_
  refine r_iconst (v := 0) dX11_parts_1 (by decide) ?_
  refine r_bipush (v := 20) dX11_parts_2 (by decide) ?_
  obtain ⟨x4, e4, h⟩ := Sat_bind h
  refine r_cS [.int l1, .int (0 : Int32), .int (20 : Int32)] [] (m_X11_in l1 (0 : Int32) (20 : Int32) μ e4) ck_X11_in lk_X11_217 st_X11_in rfl rfl (Nat.le_of_ble_eq_true rfl) ⟨by decide, by decide⟩ ⟨Nat.zero_le _, Nat.zero_le _⟩ dX11_parts_4 ?_
  refine r_if_eq 20 dX11_parts_7 (by decide) (fun c7 => ?_) (fun c7 => ?_)
  · have h := Sat_pos c7 h
    refine r_ldc2 (v := -2) dX11_parts_20 kc_X11_441 ?_
    exact r_lreturn rfl (by rw [← Sat_eq h]; exact ⟨rfl, rfl⟩) dX11_parts_23
  · have h := Sat_neg c7 h
    refine r_iload_n dX11_parts_10 2 rfl ?_
    refine r_iconst (v := 0) dX11_parts_11 (by decide) ?_
    refine r_bipush (v := 10) dX11_parts_12 (by decide) ?_
    obtain ⟨x14, e14, h⟩ := Sat_bind h
    refine r_cS [.int l2, .int (0 : Int32), .int (10 : Int32)] [] (m_X11_in l2 (0 : Int32) (10 : Int32) μ e14) ck_X11_in lk_X11_217 st_X11_in rfl rfl (Nat.le_of_ble_eq_true rfl) ⟨by decide, by decide⟩ ⟨Nat.zero_le _, Nat.zero_le _⟩ dX11_parts_14 ?_
    refine r_if_ne 24 dX11_parts_17 (by decide) (fun c17 => ?_) (fun c17 => ?_)
    · have h := Sat_neg c17 h
      refine r_iconst (v := 0) dX11_parts_24 (by decide) ?_
      refine r_istore_n (lv' := [(3, .int (0 : Int32)), (0, .ref a0), (1, .int l1), (2, .int l2)]) dX11_parts_25 rfl (by decide) rfl ?_
      refine r_sub (lv' := [(0, .ref a0), (1, .int l1), (2, .int l2), (3, .int (0 : Int32))]) [1, 2, 3, 0] rfl ?_
      refine whl_K (s0 := (((0 : Int32), μ) : Int32 × Mm)) (RR := fun (s26 : Int32 × Mm) => Rn_X11_parts G (fun v μ' => v = some (.long r.1) ∧ μ' = r.2) 26 [(0, .ref a0), (1, .int l1), (2, .int l2), (3, .int s26.1)] [] s26.2) ?_ (Sat_bindK h)
      intro s26 K26 hI26 hX26 h
      have J134 : ∀ (l3_134 : Int32) (μ_134 : Mm), Sat (f_X11_parts_J134 a0 l1 l2 l3_134 μ_134) K26 → Rn_X11_parts G (fun v μ' => v = some (.long r.1) ∧ μ' = r.2) 134 [(0, .ref a0), (1, .int l1), (2, .int l2), (3, .int l3_134)] [] μ_134 := by
        intro l3_134 μ_134 h
        obtain ⟨v134, e134, h⟩ := Sat_bind h
        refine r_iinc (j := 3) (v := v134) (lv' := [(3, .int v134), (0, .ref a0), (1, .int l1), (2, .int l2)]) dX11_parts_134 rfl (iinc_v e134 (by decide)) (by decide) rfl ?_
        refine r_goto 26 dX11_parts_137 (by decide) ?_
        exact r_sub [1, 2, 3, 0] rfl (hI26 _ (Sat_some h))
      refine r_iload_n dX11_parts_26 3 rfl ?_
      refine r_iload_n dX11_parts_27 1 rfl ?_
      refine r_icmp_gt 140 dX11_parts_28 (by decide) (fun c28 => ?_) (fun c28 => ?_)
      · have h := Sat_pos c28 h
        have h := hX26 _ (Sat_some h)
        exact r_sub [0, 1, 2] rfl (J140 a0 l1 l2 s26.2 h)
      · have h := Sat_neg c28 h
        refine r_iconst (v := 0) dX11_parts_31 (by decide) ?_
        refine r_istore (lv' := [(4, .int (0 : Int32)), (0, .ref a0), (1, .int l1), (2, .int l2), (3, .int s26.1)]) dX11_parts_32 (by decide) rfl ?_
        refine r_sub (lv' := [(0, .ref a0), (1, .int l1), (2, .int l2), (3, .int s26.1), (4, .int (0 : Int32))]) [1, 2, 3, 4, 0] rfl ?_
        refine whl_K (s0 := (((0 : Int32), s26.2) : Int32 × Mm)) (RR := fun (s34 : Int32 × Mm) => Rn_X11_parts G (fun v μ' => v = some (.long r.1) ∧ μ' = r.2) 34 [(0, .ref a0), (1, .int l1), (2, .int l2), (3, .int s26.1), (4, .int s34.1)] [] s34.2) ?_ (Sat_bindK h)
        intro s34 K34 hI34 hX34 h
        have J114 : ∀ (l4_114 : Int32) (l5_114 : Int64) (μ_114 : Mm), Sat (f_X11_parts_J114 a0 l1 l2 s26.1 l4_114 l5_114 μ_114) K34 → Rn_X11_parts G (fun v μ' => v = some (.long r.1) ∧ μ' = r.2) 114 [(0, .ref a0), (1, .int l1), (2, .int l2), (3, .int s26.1), (4, .int l4_114), (5, .long l5_114)] [] μ_114 := by
          intro l4_114 l5_114 μ_114 h
          refine r_aload_n dX11_parts_114 0 rfl ?_
          obtain ⟨x115, e115, h⟩ := Sat_bind h
          refine r_getP fk_X11_130 rfl e115 dX11_parts_115 ?_
          refine r_bipush (v := 11) dX11_parts_118 (by decide) ?_
          refine r_iload_n dX11_parts_120 3 rfl ?_
          refine r_imul dX11_parts_121 ?_
          refine r_iload dX11_parts_122 4 rfl ?_
          refine r_iadd dX11_parts_124 ?_
          refine r_lload dX11_parts_125 5 rfl ?_
          obtain ⟨μ127, e127, h⟩ := Sat_bind h
          refine r_lastore e127 dX11_parts_127 ?_
          obtain ⟨v128, e128, h⟩ := Sat_bind h
          refine r_iinc (j := 4) (v := v128) (lv' := [(4, .int v128), (0, .ref a0), (1, .int l1), (2, .int l2), (3, .int s26.1), (5, .long l5_114)]) dX11_parts_128 rfl (iinc_v e128 (by decide)) (by decide) rfl ?_
          refine r_goto 34 dX11_parts_131 (by decide) ?_
          exact r_sub [1, 2, 3, 4, 0] rfl (hI34 _ (Sat_some h))
        have J111 : ∀ (l4_111 : Int32) (k0_111 : Int64) (k1_111 : Int64) (μ_111 : Mm), Sat (f_X11_parts_J111 a0 l1 l2 s26.1 l4_111 k0_111 k1_111 μ_111) K34 → Rn_X11_parts G (fun v μ' => v = some (.long r.1) ∧ μ' = r.2) 111 [(0, .ref a0), (1, .int l1), (2, .int l2), (3, .int s26.1), (4, .int l4_111)] [.long k1_111, .long k0_111] μ_111 := by
          intro l4_111 k0_111 k1_111 μ_111 h
          refine r_ladd dX11_parts_111 ?_
          obtain ⟨v112, e112, h⟩ := Sat_bind h
          refine r_topl (Option.some.inj e112) ?_
          refine r_lstore (lv' := [(5, .long v112), (0, .ref a0), (1, .int l1), (2, .int l2), (3, .int s26.1), (4, .int l4_111)]) dX11_parts_112 (by decide) rfl ?_
          exact r_sub [1, 2, 3, 4, 5, 0] rfl (J114 l4_111 v112 μ_111 h)
        have J55 : ∀ (l4_55 : Int32) (k0_55 : Int64) (μ_55 : Mm), Sat (f_X11_parts_J55 a0 l1 l2 s26.1 l4_55 k0_55 μ_55) K34 → Rn_X11_parts G (fun v μ' => v = some (.long r.1) ∧ μ' = r.2) 55 [(0, .ref a0), (1, .int l1), (2, .int l2), (3, .int s26.1), (4, .int l4_55)] [.long k0_55] μ_55 := by
          intro l4_55 k0_55 μ_55 h
          refine r_lstore (lv' := [(5, .long k0_55), (0, .ref a0), (1, .int l1), (2, .int l2), (3, .int s26.1), (4, .int l4_55)]) dX11_parts_55 (by decide) rfl ?_
          refine r_iload_n dX11_parts_57 4 rfl ?_
          refine r_iconst (v := 1) dX11_parts_58 (by decide) ?_
          refine r_icmp_le 114 dX11_parts_59 (by decide) (fun c59 => ?_) (fun c59 => ?_)
          · have h := Sat_pos c59 h
            exact r_sub [1, 2, 3, 4, 5, 0] rfl (J114 l4_55 k0_55 μ_55 h)
          · have h := Sat_neg c59 h
            refine r_iload_n dX11_parts_62 4 rfl ?_
            refine r_iconst (v := 1) dX11_parts_63 (by decide) ?_
            refine r_isub dX11_parts_64 ?_
            refine r_i2l dX11_parts_65 ?_
            refine r_aload_n dX11_parts_66 1 rfl ?_
            obtain ⟨x67, e67, h⟩ := Sat_bind h
            refine r_getP fk_X11_130 rfl e67 dX11_parts_67 ?_
            refine r_bipush (v := 11) dX11_parts_70 (by decide) ?_
            refine r_iload_n dX11_parts_72 4 rfl ?_
            refine r_iconst (v := 1) dX11_parts_73 (by decide) ?_
            refine r_isub dX11_parts_74 ?_
            refine r_imul dX11_parts_75 ?_
            refine r_iload dX11_parts_76 5 rfl ?_
            refine r_iadd dX11_parts_78 ?_
            obtain ⟨x79, e79, h⟩ := Sat_bind h
            refine r_laload e79 dX11_parts_79 ?_
            refine r_lmul dX11_parts_80 ?_
            refine r_iload dX11_parts_81 5 rfl ?_
            refine r_if_le 110 dX11_parts_83 (by decide) (fun c83 => ?_) (fun c83 => ?_)
            · have h := Sat_pos c83 h
              refine r_lconst (v := 0) dX11_parts_110 (by decide) ?_
              exact r_sub [1, 2, 3, 4, 5] rfl (J111 l4_55 (((s26.1 - (1 : Int32)).toInt64) * x79) (0 : Int64) μ_55 h)
            · have h := Sat_neg c83 h
              refine r_iload_n dX11_parts_86 4 rfl ?_
              refine r_iconst (v := 1) dX11_parts_87 (by decide) ?_
              refine r_isub dX11_parts_88 ?_
              refine r_i2l dX11_parts_89 ?_
              refine r_aload_n dX11_parts_90 1 rfl ?_
              obtain ⟨x91, e91, h⟩ := Sat_bind h
              refine r_getP fk_X11_130 rfl e91 dX11_parts_91 ?_
              refine r_bipush (v := 11) dX11_parts_94 (by decide) ?_
              refine r_iload_n dX11_parts_96 4 rfl ?_
              refine r_iconst (v := 2) dX11_parts_97 (by decide) ?_
              refine r_isub dX11_parts_98 ?_
              refine r_imul dX11_parts_99 ?_
              refine r_iload dX11_parts_100 5 rfl ?_
              refine r_iadd dX11_parts_102 ?_
              refine r_iconst (v := 1) dX11_parts_103 (by decide) ?_
              refine r_isub dX11_parts_104 ?_
              obtain ⟨x105, e105, h⟩ := Sat_bind h
              refine r_laload e105 dX11_parts_105 ?_
              refine r_lmul dX11_parts_106 ?_
              refine r_goto 111 dX11_parts_107 (by decide) ?_
              exact r_sub [1, 2, 3, 4, 5] rfl (J111 l4_55 (((s26.1 - (1 : Int32)).toInt64) * x79) (((s26.1 - (1 : Int32)).toInt64) * x105) μ_55 h)
        have J54 : ∀ (l4_54 : Int32) (μ_54 : Mm), Sat (f_X11_parts_J54 a0 l1 l2 s26.1 l4_54 μ_54) K34 → Rn_X11_parts G (fun v μ' => v = some (.long r.1) ∧ μ' = r.2) 54 [(0, .ref a0), (1, .int l1), (2, .int l2), (3, .int s26.1), (4, .int l4_54)] [] μ_54 := by
          intro l4_54 μ_54 h
          refine r_lconst (v := 0) dX11_parts_54 (by decide) ?_
          exact r_sub [0, 1, 2, 3, 4] rfl (J55 l4_54 (0 : Int64) μ_54 h)
        refine r_iload dX11_parts_34 4 rfl ?_
        refine r_bipush (v := 10) dX11_parts_36 (by decide) ?_
        refine r_icmp_gt 134 dX11_parts_38 (by decide) (fun c38 => ?_) (fun c38 => ?_)
        · have h := Sat_pos c38 h
          have h := hX34 _ (Sat_some h)
          exact r_sub [0, 1, 2, 3] rfl (J134 s26.1 s34.2 h)
        · have h := Sat_neg c38 h
          refine r_iload_n dX11_parts_41 3 rfl ?_
          refine r_if_ne 54 dX11_parts_42 (by decide) (fun c42 => ?_) (fun c42 => ?_)
          · have h := Sat_neg c42 h
            exact r_sub [0, 1, 2, 3, 4] rfl (J54 s34.1 s34.2 h)
          · have h := Sat_pos c42 h
            refine r_iload dX11_parts_45 4 rfl ?_
            refine r_if_ne 54 dX11_parts_47 (by decide) (fun c47 => ?_) (fun c47 => ?_)
            · have h := Sat_neg c47 h
              exact r_sub [0, 1, 2, 3, 4] rfl (J54 s34.1 s34.2 h)
            · have h := Sat_pos c47 h
              refine r_lconst (v := 1) dX11_parts_50 (by decide) ?_
              refine r_goto 55 dX11_parts_51 (by decide) ?_
              exact r_sub [0, 1, 2, 3, 4] rfl (J55 s34.1 (1 : Int64) s34.2 h)
    · have h := Sat_pos c17 h
      refine r_ldc2 (v := -2) dX11_parts_20 kc_X11_441 ?_
      exact r_lreturn rfl (by rw [← Sat_eq h]; exact ⟨rfl, rfl⟩) dX11_parts_23
theorem dX11_plan_0 : decode cX11_plan 0 = .ok (.iconst (-1), 1) := by decide +kernel
theorem dX11_plan_1 : decode cX11_plan 1 = .ok (.istore_n 1, 1) := by decide +kernel
theorem dX11_plan_2 : decode cX11_plan 2 = .ok (.iconst 0, 1) := by decide +kernel
theorem dX11_plan_3 : decode cX11_plan 3 = .ok (.istore_n 2, 1) := by decide +kernel
theorem dX11_plan_4 : decode cX11_plan 4 = .ok (.iconst 0, 1) := by decide +kernel
theorem dX11_plan_5 : decode cX11_plan 5 = .ok (.istore_n 3, 1) := by decide +kernel
theorem dX11_plan_6 : decode cX11_plan 6 = .ok (.aload_n 0, 1) := by decide +kernel
theorem dX11_plan_7 : decode cX11_plan 7 = .ok (.iload_n 3, 1) := by decide +kernel
theorem dX11_plan_8 : decode cX11_plan 8 = .ok (.invokevirtual 401, 3) := by decide +kernel
theorem dX11_plan_11 : decode cX11_plan 11 = .ok (.ifCond .eq 55, 3) := by decide +kernel
theorem dX11_plan_14 : decode cX11_plan 14 = .ok (.aload_n 0, 1) := by decide +kernel
theorem dX11_plan_15 : decode cX11_plan 15 = .ok (.iload_n 3, 1) := by decide +kernel
theorem dX11_plan_16 : decode cX11_plan 16 = .ok (.invokevirtual 404, 3) := by decide +kernel
theorem dX11_plan_19 : decode cX11_plan 19 = .ok (.invokestatic 407, 3) := by decide +kernel
theorem dX11_plan_22 : decode cX11_plan 22 = .ok (.istore 4, 2) := by decide +kernel
theorem dX11_plan_24 : decode cX11_plan 24 = .ok (.iload_n 1, 1) := by decide +kernel
theorem dX11_plan_25 : decode cX11_plan 25 = .ok (.iconst (-1), 1) := by decide +kernel
theorem dX11_plan_26 : decode cX11_plan 26 = .ok (.if_icmp .eq 29, 3) := by decide +kernel
theorem dX11_plan_29 : decode cX11_plan 29 = .ok (.iload 4, 2) := by decide +kernel
theorem dX11_plan_31 : decode cX11_plan 31 = .ok (.iload_n 2, 1) := by decide +kernel
theorem dX11_plan_32 : decode cX11_plan 32 = .ok (.if_icmp .lt 28, 3) := by decide +kernel
theorem dX11_plan_35 : decode cX11_plan 35 = .ok (.iload 4, 2) := by decide +kernel
theorem dX11_plan_37 : decode cX11_plan 37 = .ok (.iload_n 2, 1) := by decide +kernel
theorem dX11_plan_38 : decode cX11_plan 38 = .ok (.if_icmp .ne 17, 3) := by decide +kernel
theorem dX11_plan_41 : decode cX11_plan 41 = .ok (.iload_n 3, 1) := by decide +kernel
theorem dX11_plan_42 : decode cX11_plan 42 = .ok (.invokestatic 407, 3) := by decide +kernel
theorem dX11_plan_45 : decode cX11_plan 45 = .ok (.iload_n 1, 1) := by decide +kernel
theorem dX11_plan_46 : decode cX11_plan 46 = .ok (.invokestatic 407, 3) := by decide +kernel
theorem dX11_plan_49 : decode cX11_plan 49 = .ok (.if_icmp .lt 6, 3) := by decide +kernel
theorem dX11_plan_52 : decode cX11_plan 52 = .ok (.goto 8, 3) := by decide +kernel
theorem dX11_plan_55 : decode cX11_plan 55 = .ok (.iload_n 3, 1) := by decide +kernel
theorem dX11_plan_56 : decode cX11_plan 56 = .ok (.istore_n 1, 1) := by decide +kernel
theorem dX11_plan_57 : decode cX11_plan 57 = .ok (.iload 4, 2) := by decide +kernel
theorem dX11_plan_59 : decode cX11_plan 59 = .ok (.istore_n 2, 1) := by decide +kernel
theorem dX11_plan_60 : decode cX11_plan 60 = .ok (.iinc 3 1, 3) := by decide +kernel
theorem dX11_plan_63 : decode cX11_plan 63 = .ok (.goto (-57), 3) := by decide +kernel
theorem dX11_plan_66 : decode cX11_plan 66 = .ok (.iload_n 1, 1) := by decide +kernel
theorem dX11_plan_67 : decode cX11_plan 67 = .ok (.ireturn, 1) := by decide +kernel
noncomputable def f_X11_plan_J60 (a0 : Nat) (l1 : Int32) (l2 : Int32) (l3 : Int32) (μ : Mm) : Option ((Int32 × Int32 × Int32 × Mm) ⊕ (Int32 × Mm)) :=
  (some (l3 + (1 : Int32))).bind fun v60 => some (.inl (l1, l2, v60, μ))
noncomputable def f_X11_plan_J55 (a0 : Nat) (l3 : Int32) (l4 : Int32) (μ : Mm) : Option ((Int32 × Int32 × Int32 × Mm) ⊕ (Int32 × Mm)) :=
  f_X11_plan_J60 a0 l3 l4 l3 μ
noncomputable def f_X11_plan_L6 (a0 : Nat) (s6 : Int32 × Int32 × Int32 × Mm) : Option ((Int32 × Int32 × Int32 × Mm) ⊕ (Int32 × Mm)) :=
  (f_X11_isSet a0 s6.2.2.1 s6.2.2.2).bind fun x8 => if x8 = 0 then some (.inr (s6.1, s6.2.2.2)) else (f_X11_metBy a0 s6.2.2.1 s6.2.2.2).bind fun x16 => (f_X11_bits x16.1 x16.2).bind fun x19 => if s6.1 = (-1 : Int32) then f_X11_plan_J55 a0 s6.2.2.1 x19 x16.2 else if x19 < s6.2.1 then f_X11_plan_J60 a0 s6.1 s6.2.1 s6.2.2.1 x16.2 else if x19 = s6.2.1 then (f_X11_bits s6.2.2.1 x16.2).bind fun x42 => (f_X11_bits s6.1 x16.2).bind fun x46 => if x42 < x46 then f_X11_plan_J55 a0 s6.2.2.1 x19 x16.2 else f_X11_plan_J60 a0 s6.1 s6.2.1 s6.2.2.1 x16.2 else f_X11_plan_J55 a0 s6.2.2.1 x19 x16.2
noncomputable def f_X11_plan (a0 : Nat) (μ : Mm) : Option (Int32 × Mm) :=
  if (mm_K μ a0).1 = 12 then (whl (f_X11_plan_L6 a0) ((-1 : Int32), (0 : Int32), (0 : Int32), μ)).bind (fun b6 => some (b6.1, b6.2)) else none
abbrev Rn_X11_plan (G : Gv) (Q : Option Value → Mm → Prop) (pc : Nat) (lv : List (Nat × Value)) (st : List Value) (μ : Mm) : Prop := Rn G RX11 cX11_plan 5 (some .int) "plan" (rmd 4 0 0) (Zm G 0 0 Q) 0 0 pc lv st μ
set_option maxRecDepth 100000 in
set_option maxHeartbeats 4000000 in
theorem m_X11_plan {G : Gv} (a0 : Nat) (μ : Mm) {r : (Int32 × Mm)} (hx : f_X11_plan a0 μ = some r) : Mt G yX11_plan cX11_plan 5 (some .int) 4 0 0 [.ref a0] μ (fun v μ' => v = some (.int r.1) ∧ μ' = r.2) := by
  refine Mt.of (by decide) (Nat.le_of_ble_eq_true rfl) ?_
  show Rn_X11_plan G (fun v μ' => v = some (.int r.1) ∧ μ' = r.2) 0 [(0, .ref a0)] [] μ
  obtain ⟨_, h⟩ := Sat_ifp (show Sat (f_X11_plan a0 μ) (fun x => x = r) from ⟨_, hx, rfl⟩)
  refine r_iconst (v := -1) dX11_plan_0 (by decide) ?_
  refine r_istore_n (lv' := [(1, .int (-1 : Int32)), (0, .ref a0)]) dX11_plan_1 rfl (by decide) rfl ?_
  refine r_iconst (v := 0) dX11_plan_2 (by decide) ?_
  refine r_istore_n (lv' := [(2, .int (0 : Int32)), (1, .int (-1 : Int32)), (0, .ref a0)]) dX11_plan_3 rfl (by decide) rfl ?_
  refine r_iconst (v := 0) dX11_plan_4 (by decide) ?_
  refine r_istore_n (lv' := [(3, .int (0 : Int32)), (2, .int (0 : Int32)), (1, .int (-1 : Int32)), (0, .ref a0)]) dX11_plan_5 rfl (by decide) rfl ?_
  refine r_sub (lv' := [(0, .ref a0), (1, .int (-1 : Int32)), (2, .int (0 : Int32)), (3, .int (0 : Int32))]) [3, 2, 1, 0] rfl ?_
  refine whl_K (s0 := (((-1 : Int32), (0 : Int32), (0 : Int32), μ) : Int32 × Int32 × Int32 × Mm)) (RR := fun (s6 : Int32 × Int32 × Int32 × Mm) => Rn_X11_plan G (fun v μ' => v = some (.int r.1) ∧ μ' = r.2) 6 [(0, .ref a0), (1, .int s6.1), (2, .int s6.2.1), (3, .int s6.2.2.1)] [] s6.2.2.2) ?_ (Sat_bindK h)
  intro s6 K6 hI6 hX6 h
  have J60 : ∀ (l1_60 : Int32) (l2_60 : Int32) (l3_60 : Int32) (μ_60 : Mm), Sat (f_X11_plan_J60 a0 l1_60 l2_60 l3_60 μ_60) K6 → Rn_X11_plan G (fun v μ' => v = some (.int r.1) ∧ μ' = r.2) 60 [(0, .ref a0), (1, .int l1_60), (2, .int l2_60), (3, .int l3_60)] [] μ_60 := by
    intro l1_60 l2_60 l3_60 μ_60 h
    obtain ⟨v60, e60, h⟩ := Sat_bind h
    refine r_iinc (j := 3) (v := v60) (lv' := [(3, .int v60), (0, .ref a0), (1, .int l1_60), (2, .int l2_60)]) dX11_plan_60 rfl (iinc_v e60 (by decide)) (by decide) rfl ?_
    refine r_goto 6 dX11_plan_63 (by decide) ?_
    exact r_sub [1, 2, 3, 0] rfl (hI6 _ (Sat_some h))
  have J55 : ∀ (l3_55 : Int32) (l4_55 : Int32) (μ_55 : Mm), Sat (f_X11_plan_J55 a0 l3_55 l4_55 μ_55) K6 → Rn_X11_plan G (fun v μ' => v = some (.int r.1) ∧ μ' = r.2) 55 [(0, .ref a0), (3, .int l3_55), (4, .int l4_55)] [] μ_55 := by
    intro l3_55 l4_55 μ_55 h
    refine r_iload_n dX11_plan_55 1 rfl ?_
    refine r_istore_n (lv' := [(1, .int l3_55), (0, .ref a0), (3, .int l3_55), (4, .int l4_55)]) dX11_plan_56 rfl (by decide) rfl ?_
    refine r_iload dX11_plan_57 3 rfl ?_
    refine r_istore_n (lv' := [(2, .int l4_55), (1, .int l3_55), (0, .ref a0), (3, .int l3_55), (4, .int l4_55)]) dX11_plan_59 rfl (by decide) rfl ?_
    exact r_sub [2, 1, 0, 3] rfl (J60 l3_55 l4_55 l3_55 μ_55 h)
  refine r_aload_n dX11_plan_6 0 rfl ?_
  refine r_iload_n dX11_plan_7 3 rfl ?_
  obtain ⟨x8, e8, h⟩ := Sat_bind h
  refine r_cV (t := 12) [.int s6.2.2.1] [] (m_X11_isSet a0 s6.2.2.1 s6.2.2.2 e8) ck_X11_isSet lk_X11_401 in_X11_isSet se_X11_isSet (kd_of e8) ⟨rfl, by decide, by decide⟩ rfl rfl (Nat.le_of_ble_eq_true rfl) ⟨by decide, by decide⟩ ⟨Nat.zero_le _, Nat.zero_le _⟩ dX11_plan_8 ?_
  refine r_if_eq 66 dX11_plan_11 (by decide) (fun c11 => ?_) (fun c11 => ?_)
  · have h := Sat_pos c11 h
    have h := hX6 _ (Sat_some h)
    refine r_iload_n dX11_plan_66 1 rfl ?_
    exact r_ireturn rfl (by rw [← Sat_eq h]; exact ⟨rfl, rfl⟩) dX11_plan_67
  · have h := Sat_neg c11 h
    refine r_aload_n dX11_plan_14 0 rfl ?_
    refine r_iload_n dX11_plan_15 3 rfl ?_
    obtain ⟨x16, e16, h⟩ := Sat_bind h
    refine r_cV (t := 12) [.int s6.2.2.1] [] (m_X11_metBy a0 s6.2.2.1 s6.2.2.2 e16) ck_X11_metBy lk_X11_404 in_X11_metBy se_X11_metBy (kd_of e16) ⟨rfl, by decide, by decide⟩ rfl rfl (Nat.le_of_ble_eq_true rfl) ⟨by decide, by decide⟩ ⟨Nat.zero_le _, Nat.zero_le _⟩ dX11_plan_16 ?_
    obtain ⟨x19, e19, h⟩ := Sat_bind h
    refine r_cS [.int x16.1] [] (m_X11_bits x16.1 x16.2 e19) ck_X11_bits lk_X11_407 st_X11_bits rfl rfl (Nat.le_of_ble_eq_true rfl) ⟨by decide, by decide⟩ ⟨Nat.zero_le _, Nat.zero_le _⟩ dX11_plan_19 ?_
    refine r_istore (lv' := [(4, .int x19), (0, .ref a0), (1, .int s6.1), (2, .int s6.2.1), (3, .int s6.2.2.1)]) dX11_plan_22 (by decide) rfl ?_
    refine r_iload_n dX11_plan_24 2 rfl ?_
    refine r_iconst (v := -1) dX11_plan_25 (by decide) ?_
    refine r_icmp_eq 55 dX11_plan_26 (by decide) (fun c26 => ?_) (fun c26 => ?_)
    · have h := Sat_pos c26 h
      exact r_sub [1, 4, 0] rfl (J55 s6.2.2.1 x19 x16.2 h)
    · have h := Sat_neg c26 h
      refine r_iload dX11_plan_29 0 rfl ?_
      refine r_iload_n dX11_plan_31 3 rfl ?_
      refine r_icmp_lt 60 dX11_plan_32 (by decide) (fun c32 => ?_) (fun c32 => ?_)
      · have h := Sat_pos c32 h
        exact r_sub [1, 2, 3, 4] rfl (J60 s6.1 s6.2.1 s6.2.2.1 x16.2 h)
      · have h := Sat_neg c32 h
        refine r_iload dX11_plan_35 0 rfl ?_
        refine r_iload_n dX11_plan_37 3 rfl ?_
        refine r_icmp_ne 55 dX11_plan_38 (by decide) (fun c38 => ?_) (fun c38 => ?_)
        · have h := Sat_neg c38 h
          exact r_sub [1, 4, 0] rfl (J55 s6.2.2.1 x19 x16.2 h)
        · have h := Sat_pos c38 h
          refine r_iload_n dX11_plan_41 4 rfl ?_
          obtain ⟨x42, e42, h⟩ := Sat_bind h
          refine r_cS [.int s6.2.2.1] [] (m_X11_bits s6.2.2.1 x16.2 e42) ck_X11_bits lk_X11_407 st_X11_bits rfl rfl (Nat.le_of_ble_eq_true rfl) ⟨by decide, by decide⟩ ⟨Nat.zero_le _, Nat.zero_le _⟩ dX11_plan_42 ?_
          refine r_iload_n dX11_plan_45 2 rfl ?_
          obtain ⟨x46, e46, h⟩ := Sat_bind h
          refine r_cS [.int s6.1] [.int x42] (m_X11_bits s6.1 x16.2 e46) ck_X11_bits lk_X11_407 st_X11_bits rfl rfl (Nat.le_of_ble_eq_true rfl) ⟨by decide, by decide⟩ ⟨Nat.zero_le _, Nat.zero_le _⟩ dX11_plan_46 ?_
          refine r_icmp_lt 55 dX11_plan_49 (by decide) (fun c49 => ?_) (fun c49 => ?_)
          · have h := Sat_pos c49 h
            exact r_sub [1, 4, 0] rfl (J55 s6.2.2.1 x19 x16.2 h)
          · have h := Sat_neg c49 h
            refine r_goto 60 dX11_plan_52 (by decide) ?_
            exact r_sub [1, 2, 3, 4] rfl (J60 s6.1 s6.2.1 s6.2.2.1 x16.2 h)
