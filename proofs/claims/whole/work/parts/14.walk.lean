theorem dX10_practise_0 : decode cX10_practise 0 = .ok (.aload_n 0, 1) := by decide +kernel
theorem dX10_practise_1 : decode cX10_practise 1 = .ok (.getfield 63, 3) := by decide +kernel
theorem dX10_practise_4 : decode cX10_practise 4 = .ok (.iload_n 1, 1) := by decide +kernel
theorem dX10_practise_5 : decode cX10_practise 5 = .ok (.invokevirtual 359, 3) := by decide +kernel
theorem dX10_practise_8 : decode cX10_practise 8 = .ok (.istore_n 2, 1) := by decide +kernel
theorem dX10_practise_9 : decode cX10_practise 9 = .ok (.iconst 0, 1) := by decide +kernel
theorem dX10_practise_10 : decode cX10_practise 10 = .ok (.istore_n 3, 1) := by decide +kernel
theorem dX10_practise_11 : decode cX10_practise 11 = .ok (.iload_n 3, 1) := by decide +kernel
theorem dX10_practise_12 : decode cX10_practise 12 = .ok (.aload_n 0, 1) := by decide +kernel
theorem dX10_practise_13 : decode cX10_practise 13 = .ok (.getfield 63, 3) := by decide +kernel
theorem dX10_practise_16 : decode cX10_practise 16 = .ok (.getfield 153, 3) := by decide +kernel
theorem dX10_practise_19 : decode cX10_practise 19 = .ok (.if_icmp .ge 37, 3) := by decide +kernel
theorem dX10_practise_22 : decode cX10_practise 22 = .ok (.aload_n 0, 1) := by decide +kernel
theorem dX10_practise_23 : decode cX10_practise 23 = .ok (.getfield 50, 3) := by decide +kernel
theorem dX10_practise_26 : decode cX10_practise 26 = .ok (.iload_n 3, 1) := by decide +kernel
theorem dX10_practise_27 : decode cX10_practise 27 = .ok (.sipush 9999, 3) := by decide +kernel
theorem dX10_practise_30 : decode cX10_practise 30 = .ok (.aload_n 0, 1) := by decide +kernel
theorem dX10_practise_31 : decode cX10_practise 31 = .ok (.getfield 47, 3) := by decide +kernel
theorem dX10_practise_34 : decode cX10_practise 34 = .ok (.iload_n 3, 1) := by decide +kernel
theorem dX10_practise_35 : decode cX10_practise 35 = .ok (.iaload, 1) := by decide +kernel
theorem dX10_practise_36 : decode cX10_practise 36 = .ok (.aload_n 0, 1) := by decide +kernel
theorem dX10_practise_37 : decode cX10_practise 37 = .ok (.getfield 63, 3) := by decide +kernel
theorem dX10_practise_40 : decode cX10_practise 40 = .ok (.getfield 362, 3) := by decide +kernel
theorem dX10_practise_43 : decode cX10_practise 43 = .ok (.iload_n 3, 1) := by decide +kernel
theorem dX10_practise_44 : decode cX10_practise 44 = .ok (.iaload, 1) := by decide +kernel
theorem dX10_practise_45 : decode cX10_practise 45 = .ok (.iadd, 1) := by decide +kernel
theorem dX10_practise_46 : decode cX10_practise 46 = .ok (.invokestatic 365, 3) := by decide +kernel
theorem dX10_practise_49 : decode cX10_practise 49 = .ok (.iastore, 1) := by decide +kernel
theorem dX10_practise_50 : decode cX10_practise 50 = .ok (.iinc 3 1, 3) := by decide +kernel
theorem dX10_practise_53 : decode cX10_practise 53 = .ok (.goto (-42), 3) := by decide +kernel
theorem dX10_practise_56 : decode cX10_practise 56 = .ok (.iconst 0, 1) := by decide +kernel
theorem dX10_practise_57 : decode cX10_practise 57 = .ok (.istore_n 3, 1) := by decide +kernel
theorem dX10_practise_58 : decode cX10_practise 58 = .ok (.iload_n 3, 1) := by decide +kernel
theorem dX10_practise_59 : decode cX10_practise 59 = .ok (.aload_n 0, 1) := by decide +kernel
theorem dX10_practise_60 : decode cX10_practise 60 = .ok (.getfield 63, 3) := by decide +kernel
theorem dX10_practise_63 : decode cX10_practise 63 = .ok (.getfield 153, 3) := by decide +kernel
theorem dX10_practise_66 : decode cX10_practise 66 = .ok (.if_icmp .ge 105, 3) := by decide +kernel
theorem dX10_practise_69 : decode cX10_practise 69 = .ok (.aload_n 0, 1) := by decide +kernel
theorem dX10_practise_70 : decode cX10_practise 70 = .ok (.getfield 50, 3) := by decide +kernel
theorem dX10_practise_73 : decode cX10_practise 73 = .ok (.iload_n 3, 1) := by decide +kernel
theorem dX10_practise_74 : decode cX10_practise 74 = .ok (.iaload, 1) := by decide +kernel
theorem dX10_practise_75 : decode cX10_practise 75 = .ok (.istore 4, 2) := by decide +kernel
theorem dX10_practise_77 : decode cX10_practise 77 = .ok (.aload_n 0, 1) := by decide +kernel
theorem dX10_practise_78 : decode cX10_practise 78 = .ok (.getfield 116, 3) := by decide +kernel
theorem dX10_practise_81 : decode cX10_practise 81 = .ok (.iload_n 3, 1) := by decide +kernel
theorem dX10_practise_82 : decode cX10_practise 82 = .ok (.invokestatic 199, 3) := by decide +kernel
theorem dX10_practise_85 : decode cX10_practise 85 = .ok (.istore 5, 2) := by decide +kernel
theorem dX10_practise_87 : decode cX10_practise 87 = .ok (.aload_n 0, 1) := by decide +kernel
theorem dX10_practise_88 : decode cX10_practise 88 = .ok (.getfield 63, 3) := by decide +kernel
theorem dX10_practise_91 : decode cX10_practise 91 = .ok (.iload 5, 2) := by decide +kernel
theorem dX10_practise_93 : decode cX10_practise 93 = .ok (.invokevirtual 178, 3) := by decide +kernel
theorem dX10_practise_96 : decode cX10_practise 96 = .ok (.ifCond .eq 16, 3) := by decide +kernel
theorem dX10_practise_99 : decode cX10_practise 99 = .ok (.iload_n 2, 1) := by decide +kernel
theorem dX10_practise_100 : decode cX10_practise 100 = .ok (.iload 5, 2) := by decide +kernel
theorem dX10_practise_102 : decode cX10_practise 102 = .ok (.ishr, 1) := by decide +kernel
theorem dX10_practise_103 : decode cX10_practise 103 = .ok (.iconst 1, 1) := by decide +kernel
theorem dX10_practise_104 : decode cX10_practise 104 = .ok (.iand, 1) := by decide +kernel
theorem dX10_practise_105 : decode cX10_practise 105 = .ok (.ifCond .ne 7, 3) := by decide +kernel
theorem dX10_practise_108 : decode cX10_practise 108 = .ok (.iconst 1, 1) := by decide +kernel
theorem dX10_practise_109 : decode cX10_practise 109 = .ok (.goto 4, 3) := by decide +kernel
theorem dX10_practise_112 : decode cX10_practise 112 = .ok (.iconst 0, 1) := by decide +kernel
theorem dX10_practise_113 : decode cX10_practise 113 = .ok (.istore 6, 2) := by decide +kernel
theorem dX10_practise_115 : decode cX10_practise 115 = .ok (.iload 6, 2) := by decide +kernel
theorem dX10_practise_117 : decode cX10_practise 117 = .ok (.ifCond .eq 16, 3) := by decide +kernel
theorem dX10_practise_120 : decode cX10_practise 120 = .ok (.aload_n 0, 1) := by decide +kernel
theorem dX10_practise_121 : decode cX10_practise 121 = .ok (.getfield 50, 3) := by decide +kernel
theorem dX10_practise_124 : decode cX10_practise 124 = .ok (.iload 5, 2) := by decide +kernel
theorem dX10_practise_126 : decode cX10_practise 126 = .ok (.iaload, 1) := by decide +kernel
theorem dX10_practise_127 : decode cX10_practise 127 = .ok (.iload 4, 2) := by decide +kernel
theorem dX10_practise_129 : decode cX10_practise 129 = .ok (.isub, 1) := by decide +kernel
theorem dX10_practise_130 : decode cX10_practise 130 = .ok (.goto 4, 3) := by decide +kernel
theorem dX10_practise_133 : decode cX10_practise 133 = .ok (.iconst 0, 1) := by decide +kernel
theorem dX10_practise_134 : decode cX10_practise 134 = .ok (.istore 7, 2) := by decide +kernel
theorem dX10_practise_136 : decode cX10_practise 136 = .ok (.aload_n 0, 1) := by decide +kernel
theorem dX10_practise_137 : decode cX10_practise 137 = .ok (.getfield 47, 3) := by decide +kernel
theorem dX10_practise_140 : decode cX10_practise 140 = .ok (.iload_n 3, 1) := by decide +kernel
theorem dX10_practise_141 : decode cX10_practise 141 = .ok (.iload 7, 2) := by decide +kernel
theorem dX10_practise_143 : decode cX10_practise 143 = .ok (.ifCond .le 19, 3) := by decide +kernel
theorem dX10_practise_146 : decode cX10_practise 146 = .ok (.sipush 9999, 3) := by decide +kernel
theorem dX10_practise_149 : decode cX10_practise 149 = .ok (.iload 4, 2) := by decide +kernel
theorem dX10_practise_151 : decode cX10_practise 151 = .ok (.iload 7, 2) := by decide +kernel
theorem dX10_practise_153 : decode cX10_practise 153 = .ok (.iconst 4, 1) := by decide +kernel
theorem dX10_practise_154 : decode cX10_practise 154 = .ok (.idiv, 1) := by decide +kernel
theorem dX10_practise_155 : decode cX10_practise 155 = .ok (.iadd, 1) := by decide +kernel
theorem dX10_practise_156 : decode cX10_practise 156 = .ok (.invokestatic 365, 3) := by decide +kernel
theorem dX10_practise_159 : decode cX10_practise 159 = .ok (.goto 5, 3) := by decide +kernel
theorem dX10_practise_162 : decode cX10_practise 162 = .ok (.iload 4, 2) := by decide +kernel
theorem dX10_practise_164 : decode cX10_practise 164 = .ok (.iastore, 1) := by decide +kernel
theorem dX10_practise_165 : decode cX10_practise 165 = .ok (.iinc 3 1, 3) := by decide +kernel
theorem dX10_practise_168 : decode cX10_practise 168 = .ok (.goto (-110), 3) := by decide +kernel
theorem dX10_practise_171 : decode cX10_practise 171 = .ok (.return_, 1) := by decide +kernel
noncomputable def f_X10_practise_J164 (a0 : Nat) (l2 : Int32) (l3 : Int32) (k0 : Nat) (k1 : Int32) (k2 : Int32) (μ : Mm) : Option ((Int32 × Mm) ⊕ (Mm)) :=
  (pa_I k0 k1 k2 μ).bind fun μ164 => (some (l3 + (1 : Int32))).bind fun v165 => some (.inl (v165, μ164))
noncomputable def f_X10_practise_J134 (a0 : Nat) (l2 : Int32) (l3 : Int32) (l4 : Int32) (k0 : Int32) (μ : Mm) : Option ((Int32 × Mm) ⊕ (Mm)) :=
  (gf_P 11 9 a0 μ).bind fun x137 => if k0 ≤ 0 then f_X10_practise_J164 a0 l2 l3 x137 l3 l4 μ else f_X10_practise_J164 a0 l2 l3 x137 l3 (if (l4 + (k0 / (4 : Int32))) < (9999 : Int32) then (l4 + (k0 / (4 : Int32))) else (9999 : Int32)) μ
noncomputable def f_X10_practise_J113 (a0 : Nat) (l2 : Int32) (l3 : Int32) (l4 : Int32) (l5 : Int32) (k0 : Int32) (μ : Mm) : Option ((Int32 × Mm) ⊕ (Mm)) :=
  if k0 = 0 then f_X10_practise_J134 a0 l2 l3 l4 (0 : Int32) μ else (gf_P 11 10 a0 μ).bind fun x121 => (ga_I x121 l5 μ).bind fun x126 => f_X10_practise_J134 a0 l2 l3 l4 (x126 - l4) μ
noncomputable def f_X10_practise_J112 (a0 : Nat) (l2 : Int32) (l3 : Int32) (l4 : Int32) (l5 : Int32) (μ : Mm) : Option ((Int32 × Mm) ⊕ (Mm)) :=
  f_X10_practise_J113 a0 l2 l3 l4 l5 (0 : Int32) μ
noncomputable def f_X10_practise_L58 (a0 : Nat) (l2 : Int32) (s58 : Int32 × Mm) : Option ((Int32 × Mm) ⊕ (Mm)) :=
  (gf_P 11 13 a0 s58.2).bind fun x60 => (gf_I 8 9 x60 s58.2).bind fun x63 => if x63 ≤ s58.1 then some (.inr s58.2) else (gf_P 11 10 a0 s58.2).bind fun x70 => (ga_I x70 s58.1 s58.2).bind fun x74 => (gf_I 11 15 a0 s58.2).bind fun x78 => (f_X9_dreamOf x78 s58.1 s58.2).bind fun x82 => (gf_P 11 13 a0 s58.2).bind fun x88 => (f_X7_isPerson x88 x82 s58.2).bind fun x93 => if x93 = 0 then f_X10_practise_J112 a0 l2 s58.1 x74 x82 s58.2 else if ((l2 >>> (x82 &&& 31)) &&& (1 : Int32)) = 0 then f_X10_practise_J113 a0 l2 s58.1 x74 x82 (1 : Int32) s58.2 else f_X10_practise_J112 a0 l2 s58.1 x74 x82 s58.2
noncomputable def f_X10_practise_J56 (a0 : Nat) (l2 : Int32) (μ : Mm) : Option Mm :=
  (whl (f_X10_practise_L58 a0 l2) ((0 : Int32), μ)).bind (fun b58 => some b58)
noncomputable def f_X10_practise_L11 (a0 : Nat) (l2 : Int32) (s11 : Int32 × Mm) : Option ((Int32 × Mm) ⊕ (Mm)) :=
  (gf_P 11 13 a0 s11.2).bind fun x13 => (gf_I 8 9 x13 s11.2).bind fun x16 => if x16 ≤ s11.1 then some (.inr s11.2) else (gf_P 11 10 a0 s11.2).bind fun x23 => (gf_P 11 9 a0 s11.2).bind fun x31 => (ga_I x31 s11.1 s11.2).bind fun x35 => (gf_P 11 13 a0 s11.2).bind fun x37 => (gf_P 8 2 x37 s11.2).bind fun x40 => (ga_I x40 s11.1 s11.2).bind fun x44 => (pa_I x23 s11.1 (if (x35 + x44) < (9999 : Int32) then (x35 + x44) else (9999 : Int32)) s11.2).bind fun μ49 => (some (s11.1 + (1 : Int32))).bind fun v50 => some (.inl (v50, μ49))
noncomputable def f_X10_practise (a0 : Nat) (l1 : Int32) (μ : Mm) : Option Mm :=
  if (mm_K μ a0).1 = 11 then (gf_P 11 13 a0 μ).bind fun x1 => (f_X7_dullOn x1 l1 μ).bind fun x5 => (whl (f_X10_practise_L11 a0 x5) ((0 : Int32), μ)).bind (fun b11 => f_X10_practise_J56 a0 x5 b11) else none
abbrev Rn_X10_practise (G : Gv) (Q : Option Value → Mm → Prop) (pc : Nat) (lv : List (Nat × Value)) (st : List Value) (μ : Mm) : Prop := Rn G RX10 cX10_practise 8 none "practise" (rmd 2 0 0) (Zm G 0 0 Q) 0 0 pc lv st μ
set_option maxRecDepth 100000 in
set_option maxHeartbeats 4000000 in
theorem m_X10_practise {G : Gv} (a0 : Nat) (l1 : Int32) (μ : Mm) {r : Mm} (hx : f_X10_practise a0 l1 μ = some r) : Mt G yX10_practise cX10_practise 8 none 2 0 0 [.ref a0, .int l1] μ (fun v μ' => v = none ∧ μ' = r) := by
  refine Mt.of (by decide) (Nat.le_of_ble_eq_true rfl) ?_
  show Rn_X10_practise G (fun v μ' => v = none ∧ μ' = r) 0 [(0, .ref a0), (1, .int l1)] [] μ
  obtain ⟨_, h⟩ := Sat_ifp (show Sat (f_X10_practise a0 l1 μ) (fun x => x = r) from ⟨_, hx, rfl⟩)
  have J56 : ∀ (a0_56 : Nat) (l2_56 : Int32) (μ_56 : Mm), Sat (f_X10_practise_J56 a0_56 l2_56 μ_56) (fun x => x = r) → Rn_X10_practise G (fun v μ' => v = none ∧ μ' = r) 56 [(0, .ref a0_56), (2, .int l2_56)] [] μ_56 := by
    intro a0_56 l2_56 μ_56 h
    refine r_iconst (v := 0) dX10_practise_56 (by decide) ?_
    refine r_istore_n (lv' := [(3, .int (0 : Int32)), (0, .ref a0_56), (2, .int l2_56)]) dX10_practise_57 rfl (by decide) rfl ?_
    refine r_sub (lv' := [(0, .ref a0_56), (2, .int l2_56), (3, .int (0 : Int32))]) [1, 2, 0] rfl ?_
    refine whl_K (s0 := (((0 : Int32), μ_56) : Int32 × Mm)) (RR := fun (s58 : Int32 × Mm) => Rn_X10_practise G (fun v μ' => v = none ∧ μ' = r) 58 [(0, .ref a0_56), (2, .int l2_56), (3, .int s58.1)] [] s58.2) ?_ (Sat_bindK h)
    intro s58 K58 hI58 hX58 h
    have J164 : ∀ (l3_164 : Int32) (k0_164 : Nat) (k1_164 : Int32) (k2_164 : Int32) (μ_164 : Mm), Sat (f_X10_practise_J164 a0_56 l2_56 l3_164 k0_164 k1_164 k2_164 μ_164) K58 → Rn_X10_practise G (fun v μ' => v = none ∧ μ' = r) 164 [(0, .ref a0_56), (2, .int l2_56), (3, .int l3_164)] [.int k2_164, .int k1_164, .ref k0_164] μ_164 := by
      intro l3_164 k0_164 k1_164 k2_164 μ_164 h
      obtain ⟨μ164, e164, h⟩ := Sat_bind h
      refine r_iastore e164 dX10_practise_164 ?_
      obtain ⟨v165, e165, h⟩ := Sat_bind h
      refine r_iinc (j := 2) (v := v165) (lv' := [(3, .int v165), (0, .ref a0_56), (2, .int l2_56)]) dX10_practise_165 rfl (iinc_v e165 (by decide)) (by decide) rfl ?_
      refine r_goto 58 dX10_practise_168 (by decide) ?_
      exact r_sub [1, 2, 0] rfl (hI58 _ (Sat_some h))
    have J134 : ∀ (l3_134 : Int32) (l4_134 : Int32) (k0_134 : Int32) (μ_134 : Mm), Sat (f_X10_practise_J134 a0_56 l2_56 l3_134 l4_134 k0_134 μ_134) K58 → Rn_X10_practise G (fun v μ' => v = none ∧ μ' = r) 134 [(0, .ref a0_56), (2, .int l2_56), (3, .int l3_134), (4, .int l4_134)] [.int k0_134] μ_134 := by
      intro l3_134 l4_134 k0_134 μ_134 h
      refine r_istore (lv' := [(7, .int k0_134), (0, .ref a0_56), (2, .int l2_56), (3, .int l3_134), (4, .int l4_134)]) dX10_practise_134 (by decide) rfl ?_
      refine r_aload_n dX10_practise_136 1 rfl ?_
      obtain ⟨x137, e137, h⟩ := Sat_bind h
      refine r_getP fk_X10_47 rfl e137 dX10_practise_137 ?_
      refine r_iload_n dX10_practise_140 3 rfl ?_
      refine r_iload dX10_practise_141 0 rfl ?_
      refine r_if_le 162 dX10_practise_143 (by decide) (fun c143 => ?_) (fun c143 => ?_)
      · have h := Sat_pos c143 h
        refine r_iload dX10_practise_162 4 rfl ?_
        exact r_sub [1, 2, 3] rfl (J164 l3_134 x137 l3_134 l4_134 μ_134 h)
      · have h := Sat_neg c143 h
        refine r_sipush (v := 9999) dX10_practise_146 (by decide) ?_
        refine r_iload dX10_practise_149 4 rfl ?_
        refine r_iload dX10_practise_151 0 rfl ?_
        refine r_iconst (v := 4) dX10_practise_153 (by decide) ?_
        refine r_idiv dX10_practise_154 (by decide) ?_
        refine r_iadd dX10_practise_155 ?_
        refine r_mmin mmin_X10_365 mx_st_min mx_ii mx_co_min (Nat.le_of_ble_eq_true rfl) ⟨by decide, by decide⟩ ⟨by decide, by decide⟩ dX10_practise_156 ?_
        refine r_goto 164 dX10_practise_159 (by decide) ?_
        exact r_sub [1, 2, 3] rfl (J164 l3_134 x137 l3_134 (if (l4_134 + (k0_134 / (4 : Int32))) < (9999 : Int32) then (l4_134 + (k0_134 / (4 : Int32))) else (9999 : Int32)) μ_134 h)
    have J113 : ∀ (l3_113 : Int32) (l4_113 : Int32) (l5_113 : Int32) (k0_113 : Int32) (μ_113 : Mm), Sat (f_X10_practise_J113 a0_56 l2_56 l3_113 l4_113 l5_113 k0_113 μ_113) K58 → Rn_X10_practise G (fun v μ' => v = none ∧ μ' = r) 113 [(0, .ref a0_56), (2, .int l2_56), (3, .int l3_113), (4, .int l4_113), (5, .int l5_113)] [.int k0_113] μ_113 := by
      intro l3_113 l4_113 l5_113 k0_113 μ_113 h
      refine r_istore (lv' := [(6, .int k0_113), (0, .ref a0_56), (2, .int l2_56), (3, .int l3_113), (4, .int l4_113), (5, .int l5_113)]) dX10_practise_113 (by decide) rfl ?_
      refine r_iload dX10_practise_115 0 rfl ?_
      refine r_if_eq 133 dX10_practise_117 (by decide) (fun c117 => ?_) (fun c117 => ?_)
      · have h := Sat_pos c117 h
        refine r_iconst (v := 0) dX10_practise_133 (by decide) ?_
        exact r_sub [1, 2, 3, 4] rfl (J134 l3_113 l4_113 (0 : Int32) μ_113 h)
      · have h := Sat_neg c117 h
        refine r_aload_n dX10_practise_120 1 rfl ?_
        obtain ⟨x121, e121, h⟩ := Sat_bind h
        refine r_getP fk_X10_50 rfl e121 dX10_practise_121 ?_
        refine r_iload dX10_practise_124 5 rfl ?_
        obtain ⟨x126, e126, h⟩ := Sat_bind h
        refine r_iaload e126 dX10_practise_126 ?_
        refine r_iload dX10_practise_127 4 rfl ?_
        refine r_isub dX10_practise_129 ?_
        refine r_goto 134 dX10_practise_130 (by decide) ?_
        exact r_sub [1, 2, 3, 4] rfl (J134 l3_113 l4_113 (x126 - l4_113) μ_113 h)
    have J112 : ∀ (l3_112 : Int32) (l4_112 : Int32) (l5_112 : Int32) (μ_112 : Mm), Sat (f_X10_practise_J112 a0_56 l2_56 l3_112 l4_112 l5_112 μ_112) K58 → Rn_X10_practise G (fun v μ' => v = none ∧ μ' = r) 112 [(0, .ref a0_56), (2, .int l2_56), (3, .int l3_112), (4, .int l4_112), (5, .int l5_112)] [] μ_112 := by
      intro l3_112 l4_112 l5_112 μ_112 h
      refine r_iconst (v := 0) dX10_practise_112 (by decide) ?_
      exact r_sub [0, 1, 2, 3, 4] rfl (J113 l3_112 l4_112 l5_112 (0 : Int32) μ_112 h)
    refine r_iload_n dX10_practise_58 2 rfl ?_
    refine r_aload_n dX10_practise_59 0 rfl ?_
    obtain ⟨x60, e60, h⟩ := Sat_bind h
    refine r_getP fk_X10_63 rfl e60 dX10_practise_60 ?_
    obtain ⟨x63, e63, h⟩ := Sat_bind h
    refine r_getI fk_X10_153 rfl e63 dX10_practise_63 ?_
    refine r_icmp_ge 171 dX10_practise_66 (by decide) (fun c66 => ?_) (fun c66 => ?_)
    · have h := Sat_pos c66 h
      have h := hX58 _ (Sat_some h)
      exact r_vreturn rfl (by rw [← Sat_eq h]; exact ⟨rfl, rfl⟩) dX10_practise_171
    · have h := Sat_neg c66 h
      refine r_aload_n dX10_practise_69 0 rfl ?_
      obtain ⟨x70, e70, h⟩ := Sat_bind h
      refine r_getP fk_X10_50 rfl e70 dX10_practise_70 ?_
      refine r_iload_n dX10_practise_73 2 rfl ?_
      obtain ⟨x74, e74, h⟩ := Sat_bind h
      refine r_iaload e74 dX10_practise_74 ?_
      refine r_istore (lv' := [(4, .int x74), (0, .ref a0_56), (2, .int l2_56), (3, .int s58.1)]) dX10_practise_75 (by decide) rfl ?_
      refine r_aload_n dX10_practise_77 1 rfl ?_
      obtain ⟨x78, e78, h⟩ := Sat_bind h
      refine r_getI fk_X10_116 rfl e78 dX10_practise_78 ?_
      refine r_iload_n dX10_practise_81 3 rfl ?_
      obtain ⟨x82, e82, h⟩ := Sat_bind h
      refine r_cS [.int x78, .int s58.1] [] (m_X9_dreamOf x78 s58.1 s58.2 e82) ck_X9_dreamOf lk_X10_199 st_X9_dreamOf rfl rfl (Nat.le_of_ble_eq_true rfl) ⟨by decide, by decide⟩ ⟨Nat.zero_le _, Nat.zero_le _⟩ dX10_practise_82 ?_
      refine r_istore (lv' := [(5, .int x82), (4, .int x74), (0, .ref a0_56), (2, .int l2_56), (3, .int s58.1)]) dX10_practise_85 (by decide) rfl ?_
      refine r_aload_n dX10_practise_87 2 rfl ?_
      obtain ⟨x88, e88, h⟩ := Sat_bind h
      refine r_getP fk_X10_63 rfl e88 dX10_practise_88 ?_
      refine r_iload dX10_practise_91 0 rfl ?_
      obtain ⟨x93, e93, h⟩ := Sat_bind h
      refine r_cV (t := 8) [.int x82] [] (m_X7_isPerson x88 x82 s58.2 e93) ck_X7_isPerson lk_X10_178 in_X7_isPerson se_X7_isPerson (kd_of e93) ⟨rfl, by decide, by decide⟩ rfl rfl (Nat.le_of_ble_eq_true rfl) ⟨by decide, by decide⟩ ⟨Nat.zero_le _, Nat.zero_le _⟩ dX10_practise_93 ?_
      refine r_if_eq 112 dX10_practise_96 (by decide) (fun c96 => ?_) (fun c96 => ?_)
      · have h := Sat_pos c96 h
        exact r_sub [2, 3, 4, 1, 0] rfl (J112 s58.1 x74 x82 s58.2 h)
      · have h := Sat_neg c96 h
        refine r_iload_n dX10_practise_99 3 rfl ?_
        refine r_iload dX10_practise_100 0 rfl ?_
        refine r_ishr dX10_practise_102 ?_
        refine r_iconst (v := 1) dX10_practise_103 (by decide) ?_
        refine r_iand dX10_practise_104 ?_
        refine r_if_ne 112 dX10_practise_105 (by decide) (fun c105 => ?_) (fun c105 => ?_)
        · have h := Sat_neg c105 h
          exact r_sub [2, 3, 4, 1, 0] rfl (J112 s58.1 x74 x82 s58.2 h)
        · have h := Sat_pos c105 h
          refine r_iconst (v := 1) dX10_practise_108 (by decide) ?_
          refine r_goto 113 dX10_practise_109 (by decide) ?_
          exact r_sub [2, 3, 4, 1, 0] rfl (J113 s58.1 x74 x82 (1 : Int32) s58.2 h)
  refine r_aload_n dX10_practise_0 0 rfl ?_
  obtain ⟨x1, e1, h⟩ := Sat_bind h
  refine r_getP fk_X10_63 rfl e1 dX10_practise_1 ?_
  refine r_iload_n dX10_practise_4 1 rfl ?_
  obtain ⟨x5, e5, h⟩ := Sat_bind h
  refine r_cV (t := 8) [.int l1] [] (m_X7_dullOn x1 l1 μ e5) ck_X7_dullOn lk_X10_359 in_X7_dullOn se_X7_dullOn (kd_of e5) ⟨rfl, by decide, by decide⟩ rfl rfl (Nat.le_of_ble_eq_true rfl) ⟨by decide, by decide⟩ ⟨Nat.zero_le _, Nat.zero_le _⟩ dX10_practise_5 ?_
  refine r_istore_n (lv' := [(2, .int x5), (0, .ref a0), (1, .int l1)]) dX10_practise_8 rfl (by decide) rfl ?_
  refine r_iconst (v := 0) dX10_practise_9 (by decide) ?_
  refine r_istore_n (lv' := [(3, .int (0 : Int32)), (2, .int x5), (0, .ref a0), (1, .int l1)]) dX10_practise_10 rfl (by decide) rfl ?_
  refine r_sub (lv' := [(0, .ref a0), (2, .int x5), (3, .int (0 : Int32))]) [2, 1, 0] rfl ?_
  refine whl_K (s0 := (((0 : Int32), μ) : Int32 × Mm)) (RR := fun (s11 : Int32 × Mm) => Rn_X10_practise G (fun v μ' => v = none ∧ μ' = r) 11 [(0, .ref a0), (2, .int x5), (3, .int s11.1)] [] s11.2) ?_ (Sat_bindK h)
  intro s11 K11 hI11 hX11 h
  refine r_iload_n dX10_practise_11 2 rfl ?_
  refine r_aload_n dX10_practise_12 0 rfl ?_
  obtain ⟨x13, e13, h⟩ := Sat_bind h
  refine r_getP fk_X10_63 rfl e13 dX10_practise_13 ?_
  obtain ⟨x16, e16, h⟩ := Sat_bind h
  refine r_getI fk_X10_153 rfl e16 dX10_practise_16 ?_
  refine r_icmp_ge 56 dX10_practise_19 (by decide) (fun c19 => ?_) (fun c19 => ?_)
  · have h := Sat_pos c19 h
    have h := hX11 _ (Sat_some h)
    exact r_sub [0, 1] rfl (J56 a0 x5 s11.2 h)
  · have h := Sat_neg c19 h
    refine r_aload_n dX10_practise_22 0 rfl ?_
    obtain ⟨x23, e23, h⟩ := Sat_bind h
    refine r_getP fk_X10_50 rfl e23 dX10_practise_23 ?_
    refine r_iload_n dX10_practise_26 2 rfl ?_
    refine r_sipush (v := 9999) dX10_practise_27 (by decide) ?_
    refine r_aload_n dX10_practise_30 0 rfl ?_
    obtain ⟨x31, e31, h⟩ := Sat_bind h
    refine r_getP fk_X10_47 rfl e31 dX10_practise_31 ?_
    refine r_iload_n dX10_practise_34 2 rfl ?_
    obtain ⟨x35, e35, h⟩ := Sat_bind h
    refine r_iaload e35 dX10_practise_35 ?_
    refine r_aload_n dX10_practise_36 0 rfl ?_
    obtain ⟨x37, e37, h⟩ := Sat_bind h
    refine r_getP fk_X10_63 rfl e37 dX10_practise_37 ?_
    obtain ⟨x40, e40, h⟩ := Sat_bind h
    refine r_getP fk_X10_362 rfl e40 dX10_practise_40 ?_
    refine r_iload_n dX10_practise_43 2 rfl ?_
    obtain ⟨x44, e44, h⟩ := Sat_bind h
    refine r_iaload e44 dX10_practise_44 ?_
    refine r_iadd dX10_practise_45 ?_
    refine r_mmin mmin_X10_365 mx_st_min mx_ii mx_co_min (Nat.le_of_ble_eq_true rfl) ⟨by decide, by decide⟩ ⟨by decide, by decide⟩ dX10_practise_46 ?_
    obtain ⟨μ49, e49, h⟩ := Sat_bind h
    refine r_iastore e49 dX10_practise_49 ?_
    obtain ⟨v50, e50, h⟩ := Sat_bind h
    refine r_iinc (j := 2) (v := v50) (lv' := [(3, .int v50), (0, .ref a0), (2, .int x5)]) dX10_practise_50 rfl (iinc_v e50 (by decide)) (by decide) rfl ?_
    refine r_goto 11 dX10_practise_53 (by decide) ?_
    exact r_sub [1, 2, 0] rfl (hI11 _ (Sat_some h))
theorem dX10_right_0 : decode cX10_right 0 = .ok (.aload_n 0, 1) := by decide +kernel
theorem dX10_right_1 : decode cX10_right 1 = .ok (.getfield 28, 3) := by decide +kernel
theorem dX10_right_4 : decode cX10_right 4 = .ok (.iload_n 1, 1) := by decide +kernel
theorem dX10_right_5 : decode cX10_right 5 = .ok (.iload_n 3, 1) := by decide +kernel
theorem dX10_right_6 : decode cX10_right 6 = .ok (.invokevirtual 270, 3) := by decide +kernel
theorem dX10_right_9 : decode cX10_right 9 = .ok (.ifCond .eq 18, 3) := by decide +kernel
theorem dX10_right_12 : decode cX10_right 12 = .ok (.iload_n 2, 1) := by decide +kernel
theorem dX10_right_13 : decode cX10_right 13 = .ok (.ifCond .lt 14, 3) := by decide +kernel
theorem dX10_right_16 : decode cX10_right 16 = .ok (.iload_n 2, 1) := by decide +kernel
theorem dX10_right_17 : decode cX10_right 17 = .ok (.aload_n 0, 1) := by decide +kernel
theorem dX10_right_18 : decode cX10_right 18 = .ok (.getfield 28, 3) := by decide +kernel
theorem dX10_right_21 : decode cX10_right 21 = .ok (.getfield 284, 3) := by decide +kernel
theorem dX10_right_24 : decode cX10_right 24 = .ok (.if_icmp .lt 6, 3) := by decide +kernel
theorem dX10_right_27 : decode cX10_right 27 = .ok (.bipush (-2), 2) := by decide +kernel
theorem dX10_right_29 : decode cX10_right 29 = .ok (.ireturn, 1) := by decide +kernel
theorem dX10_right_30 : decode cX10_right 30 = .ok (.aload_n 0, 1) := by decide +kernel
theorem dX10_right_31 : decode cX10_right 31 = .ok (.getfield 28, 3) := by decide +kernel
theorem dX10_right_34 : decode cX10_right 34 = .ok (.invokevirtual 285, 3) := by decide +kernel
theorem dX10_right_37 : decode cX10_right 37 = .ok (.ifCond .ne 6, 3) := by decide +kernel
theorem dX10_right_40 : decode cX10_right 40 = .ok (.bipush (-3), 2) := by decide +kernel
theorem dX10_right_42 : decode cX10_right 42 = .ok (.ireturn, 1) := by decide +kernel
theorem dX10_right_43 : decode cX10_right 43 = .ok (.aload_n 0, 1) := by decide +kernel
theorem dX10_right_44 : decode cX10_right 44 = .ok (.getfield 93, 3) := by decide +kernel
theorem dX10_right_47 : decode cX10_right 47 = .ok (.iconst 0, 1) := by decide +kernel
theorem dX10_right_48 : decode cX10_right 48 = .ok (.putfield 277, 3) := by decide +kernel
theorem dX10_right_51 : decode cX10_right 51 = .ok (.aload_n 0, 1) := by decide +kernel
theorem dX10_right_52 : decode cX10_right 52 = .ok (.getfield 28, 3) := by decide +kernel
theorem dX10_right_55 : decode cX10_right 55 = .ok (.iload_n 1, 1) := by decide +kernel
theorem dX10_right_56 : decode cX10_right 56 = .ok (.iload_n 2, 1) := by decide +kernel
theorem dX10_right_57 : decode cX10_right 57 = .ok (.iload_n 3, 1) := by decide +kernel
theorem dX10_right_58 : decode cX10_right 58 = .ok (.invokevirtual 288, 3) := by decide +kernel
theorem dX10_right_61 : decode cX10_right 61 = .ok (.ireturn, 1) := by decide +kernel
noncomputable def f_X10_right (a0 : Nat) (l1 : Int32) (l2 : Int32) (l3 : Int32) (μ : Mm) : Option (Int32 × Mm) :=
  if (mm_K μ a0).1 = 11 then (gf_P 11 4 a0 μ).bind fun x1 => (f_X0_mayBeTold x1 l1 l3 μ).bind fun x6 => if x6 = 0 then some ((-2 : Int32), μ) else if l2 < 0 then some ((-2 : Int32), μ) else (gf_P 11 4 a0 μ).bind fun x18 => (gf_I 1 8 x18 μ).bind fun x21 => if l2 < x21 then (gf_P 11 4 a0 μ).bind fun x31 => (f_X0_hasRoomForRight x31 μ).bind fun x34 => if x34 = 0 then some ((-3 : Int32), μ) else (gf_P 11 5 a0 μ).bind fun x44 => (pf_Z 2 11 x44 (0 : Int32) μ).bind fun μ48 => (gf_P 11 4 a0 μ48).bind fun x52 => (f_X0_addRight x52 l1 l2 l3 μ48).bind fun x58 => some (x58.1, x58.2) else some ((-2 : Int32), μ) else none
abbrev Rn_X10_right (G : Gv) (Q : Option Value → Mm → Prop) (pc : Nat) (lv : List (Nat × Value)) (st : List Value) (μ : Mm) : Prop := Rn G RX10 cX10_right 4 (some .int) "right" (rmd 2 0 0) (Zm G 0 0 Q) 0 0 pc lv st μ
set_option maxRecDepth 100000 in
set_option maxHeartbeats 4000000 in
theorem m_X10_right {G : Gv} (a0 : Nat) (l1 : Int32) (l2 : Int32) (l3 : Int32) (μ : Mm) {r : (Int32 × Mm)} (hx : f_X10_right a0 l1 l2 l3 μ = some r) : Mt G yX10_right cX10_right 4 (some .int) 2 0 0 [.ref a0, .int l1, .int l2, .int l3] μ (fun v μ' => v = some (.int r.1) ∧ μ' = r.2) := by
  refine Mt.of (by decide) (Nat.le_of_ble_eq_true rfl) ?_
  show Rn_X10_right G (fun v μ' => v = some (.int r.1) ∧ μ' = r.2) 0 [(0, .ref a0), (1, .int l1), (2, .int l2), (3, .int l3)] [] μ
  obtain ⟨_, h⟩ := Sat_ifp (show Sat (f_X10_right a0 l1 l2 l3 μ) (fun x => x = r) from ⟨_, hx, rfl⟩)
  refine r_aload_n dX10_right_0 0 rfl ?_
  obtain ⟨x1, e1, h⟩ := Sat_bind h
  refine r_getP fk_X10_28 rfl e1 dX10_right_1 ?_
  refine r_iload_n dX10_right_4 1 rfl ?_
  refine r_iload_n dX10_right_5 3 rfl ?_
  obtain ⟨x6, e6, h⟩ := Sat_bind h
  refine r_cV (t := 1) [.int l1, .int l3] [] (m_X0_mayBeTold x1 l1 l3 μ e6) ck_X0_mayBeTold lk_X10_270 in_X0_mayBeTold se_X0_mayBeTold (kd_of e6) ⟨rfl, by decide, by decide⟩ rfl rfl (Nat.le_of_ble_eq_true rfl) ⟨by decide, by decide⟩ ⟨Nat.zero_le _, Nat.zero_le _⟩ dX10_right_6 ?_
  refine r_if_eq 27 dX10_right_9 (by decide) (fun c9 => ?_) (fun c9 => ?_)
  · have h := Sat_pos c9 h
    refine r_bipush (v := -2) dX10_right_27 (by decide) ?_
    exact r_ireturn rfl (by rw [← Sat_eq h]; exact ⟨rfl, rfl⟩) dX10_right_29
  · have h := Sat_neg c9 h
    refine r_iload_n dX10_right_12 2 rfl ?_
    refine r_if_lt 27 dX10_right_13 (by decide) (fun c13 => ?_) (fun c13 => ?_)
    · have h := Sat_pos c13 h
      refine r_bipush (v := -2) dX10_right_27 (by decide) ?_
      exact r_ireturn rfl (by rw [← Sat_eq h]; exact ⟨rfl, rfl⟩) dX10_right_29
    · have h := Sat_neg c13 h
      refine r_iload_n dX10_right_16 2 rfl ?_
      refine r_aload_n dX10_right_17 0 rfl ?_
      obtain ⟨x18, e18, h⟩ := Sat_bind h
      refine r_getP fk_X10_28 rfl e18 dX10_right_18 ?_
      obtain ⟨x21, e21, h⟩ := Sat_bind h
      refine r_getI fk_X10_284 rfl e21 dX10_right_21 ?_
      refine r_icmp_lt 30 dX10_right_24 (by decide) (fun c24 => ?_) (fun c24 => ?_)
      · have h := Sat_pos c24 h
        refine r_aload_n dX10_right_30 0 rfl ?_
        obtain ⟨x31, e31, h⟩ := Sat_bind h
        refine r_getP fk_X10_28 rfl e31 dX10_right_31 ?_
        obtain ⟨x34, e34, h⟩ := Sat_bind h
        refine r_cV (t := 1) [] [] (m_X0_hasRoomForRight x31 μ e34) ck_X0_hasRoomForRight lk_X10_285 in_X0_hasRoomForRight se_X0_hasRoomForRight (kd_of e34) ⟨rfl, by decide, by decide⟩ rfl rfl (Nat.le_of_ble_eq_true rfl) ⟨by decide, by decide⟩ ⟨Nat.zero_le _, Nat.zero_le _⟩ dX10_right_34 ?_
        refine r_if_ne 43 dX10_right_37 (by decide) (fun c37 => ?_) (fun c37 => ?_)
        · have h := Sat_neg c37 h
          refine r_aload_n dX10_right_43 0 rfl ?_
          obtain ⟨x44, e44, h⟩ := Sat_bind h
          refine r_getP fk_X10_93 rfl e44 dX10_right_44 ?_
          refine r_iconst (v := 0) dX10_right_47 (by decide) ?_
          obtain ⟨μ48, e48, h⟩ := Sat_bind h
          refine r_putZ fk_X10_277 rfl rfl e48 dX10_right_48 ?_
          refine r_aload_n dX10_right_51 0 rfl ?_
          obtain ⟨x52, e52, h⟩ := Sat_bind h
          refine r_getP fk_X10_28 rfl e52 dX10_right_52 ?_
          refine r_iload_n dX10_right_55 1 rfl ?_
          refine r_iload_n dX10_right_56 2 rfl ?_
          refine r_iload_n dX10_right_57 3 rfl ?_
          obtain ⟨x58, e58, h⟩ := Sat_bind h
          refine r_cV (t := 1) [.int l1, .int l2, .int l3] [] (m_X0_addRight x52 l1 l2 l3 μ48 e58) ck_X0_addRight lk_X10_288 in_X0_addRight se_X0_addRight (kd_of e58) ⟨rfl, by decide, by decide⟩ rfl rfl (Nat.le_of_ble_eq_true rfl) ⟨by decide, by decide⟩ ⟨Nat.zero_le _, Nat.zero_le _⟩ dX10_right_58 ?_
          exact r_ireturn rfl (by rw [← Sat_eq h]; exact ⟨rfl, rfl⟩) dX10_right_61
        · have h := Sat_pos c37 h
          refine r_bipush (v := -3) dX10_right_40 (by decide) ?_
          exact r_ireturn rfl (by rw [← Sat_eq h]; exact ⟨rfl, rfl⟩) dX10_right_42
      · have h := Sat_neg c24 h
        refine r_bipush (v := -2) dX10_right_27 (by decide) ?_
        exact r_ireturn rfl (by rw [← Sat_eq h]; exact ⟨rfl, rfl⟩) dX10_right_29
theorem dX10_ringLength_0 : decode cX10_ringLength 0 = .ok (.aload_n 0, 1) := by decide +kernel
theorem dX10_ringLength_1 : decode cX10_ringLength 1 = .ok (.getfield 116, 3) := by decide +kernel
theorem dX10_ringLength_4 : decode cX10_ringLength 4 = .ok (.iload_n 1, 1) := by decide +kernel
theorem dX10_ringLength_5 : decode cX10_ringLength 5 = .ok (.invokestatic 199, 3) := by decide +kernel
theorem dX10_ringLength_8 : decode cX10_ringLength 8 = .ok (.istore_n 2, 1) := by decide +kernel
theorem dX10_ringLength_9 : decode cX10_ringLength 9 = .ok (.iload_n 2, 1) := by decide +kernel
theorem dX10_ringLength_10 : decode cX10_ringLength 10 = .ok (.iconst (-1), 1) := by decide +kernel
theorem dX10_ringLength_11 : decode cX10_ringLength 11 = .ok (.if_icmp .ne 5, 3) := by decide +kernel
theorem dX10_ringLength_14 : decode cX10_ringLength 14 = .ok (.iconst 0, 1) := by decide +kernel
theorem dX10_ringLength_15 : decode cX10_ringLength 15 = .ok (.ireturn, 1) := by decide +kernel
theorem dX10_ringLength_16 : decode cX10_ringLength 16 = .ok (.iconst 1, 1) := by decide +kernel
theorem dX10_ringLength_17 : decode cX10_ringLength 17 = .ok (.istore_n 3, 1) := by decide +kernel
theorem dX10_ringLength_18 : decode cX10_ringLength 18 = .ok (.iload_n 2, 1) := by decide +kernel
theorem dX10_ringLength_19 : decode cX10_ringLength 19 = .ok (.iload_n 1, 1) := by decide +kernel
theorem dX10_ringLength_20 : decode cX10_ringLength 20 = .ok (.if_icmp .eq 24, 3) := by decide +kernel
theorem dX10_ringLength_23 : decode cX10_ringLength 23 = .ok (.iload_n 3, 1) := by decide +kernel
theorem dX10_ringLength_24 : decode cX10_ringLength 24 = .ok (.bipush 8, 2) := by decide +kernel
theorem dX10_ringLength_26 : decode cX10_ringLength 26 = .ok (.if_icmp .ge 18, 3) := by decide +kernel
theorem dX10_ringLength_29 : decode cX10_ringLength 29 = .ok (.aload_n 0, 1) := by decide +kernel
theorem dX10_ringLength_30 : decode cX10_ringLength 30 = .ok (.getfield 116, 3) := by decide +kernel
theorem dX10_ringLength_33 : decode cX10_ringLength 33 = .ok (.iload_n 2, 1) := by decide +kernel
theorem dX10_ringLength_34 : decode cX10_ringLength 34 = .ok (.invokestatic 199, 3) := by decide +kernel
theorem dX10_ringLength_37 : decode cX10_ringLength 37 = .ok (.istore_n 2, 1) := by decide +kernel
theorem dX10_ringLength_38 : decode cX10_ringLength 38 = .ok (.iinc 3 1, 3) := by decide +kernel
theorem dX10_ringLength_41 : decode cX10_ringLength 41 = .ok (.goto (-23), 3) := by decide +kernel
theorem dX10_ringLength_44 : decode cX10_ringLength 44 = .ok (.iload_n 3, 1) := by decide +kernel
theorem dX10_ringLength_45 : decode cX10_ringLength 45 = .ok (.ireturn, 1) := by decide +kernel
noncomputable def f_X10_ringLength_L18 (a0 : Nat) (l1 : Int32) (μ : Mm) (s18 : Int32 × Int32) : Option ((Int32 × Int32) ⊕ (Int32)) :=
  if s18.1 = l1 then some (.inr s18.2) else if (8 : Int32) ≤ s18.2 then some (.inr s18.2) else (gf_I 11 15 a0 μ).bind fun x30 => (f_X9_dreamOf x30 s18.1 μ).bind fun x34 => (some (s18.2 + (1 : Int32))).bind fun v38 => some (.inl (x34, v38))
noncomputable def f_X10_ringLength (a0 : Nat) (l1 : Int32) (μ : Mm) : Option Int32 :=
  if (mm_K μ a0).1 = 11 then (gf_I 11 15 a0 μ).bind fun x1 => (f_X9_dreamOf x1 l1 μ).bind fun x5 => if x5 = (-1 : Int32) then some (0 : Int32) else (whl (f_X10_ringLength_L18 a0 l1 μ) (x5, (1 : Int32))).bind (fun b18 => some b18) else none
abbrev Rn_X10_ringLength (G : Gv) (Q : Option Value → Mm → Prop) (pc : Nat) (lv : List (Nat × Value)) (st : List Value) (μ : Mm) : Prop := Rn G RX10 cX10_ringLength 4 (some .int) "ringLength" (rmd 1 0 0) (Zm G 0 0 Q) 0 0 pc lv st μ
set_option maxRecDepth 100000 in
set_option maxHeartbeats 4000000 in
theorem m_X10_ringLength {G : Gv} (a0 : Nat) (l1 : Int32) (μ : Mm) {r : Int32} (hx : f_X10_ringLength a0 l1 μ = some r) : Mt G yX10_ringLength cX10_ringLength 4 (some .int) 1 0 0 [.ref a0, .int l1] μ (fun v μ' => v = some (.int r) ∧ μ' = μ) := by
  refine Mt.of (by decide) (Nat.le_of_ble_eq_true rfl) ?_
  show Rn_X10_ringLength G (fun v μ' => v = some (.int r) ∧ μ' = μ) 0 [(0, .ref a0), (1, .int l1)] [] μ
  obtain ⟨_, h⟩ := Sat_ifp (show Sat (f_X10_ringLength a0 l1 μ) (fun x => x = r) from ⟨_, hx, rfl⟩)
  refine r_aload_n dX10_ringLength_0 0 rfl ?_
  obtain ⟨x1, e1, h⟩ := Sat_bind h
  refine r_getI fk_X10_116 rfl e1 dX10_ringLength_1 ?_
  refine r_iload_n dX10_ringLength_4 1 rfl ?_
  obtain ⟨x5, e5, h⟩ := Sat_bind h
  refine r_cS [.int x1, .int l1] [] (m_X9_dreamOf x1 l1 μ e5) ck_X9_dreamOf lk_X10_199 st_X9_dreamOf rfl rfl (Nat.le_of_ble_eq_true rfl) ⟨by decide, by decide⟩ ⟨Nat.zero_le _, Nat.zero_le _⟩ dX10_ringLength_5 ?_
  refine r_istore_n (lv' := [(2, .int x5), (0, .ref a0), (1, .int l1)]) dX10_ringLength_8 rfl (by decide) rfl ?_
  refine r_iload_n dX10_ringLength_9 0 rfl ?_
  refine r_iconst (v := -1) dX10_ringLength_10 (by decide) ?_
  refine r_icmp_ne 16 dX10_ringLength_11 (by decide) (fun c11 => ?_) (fun c11 => ?_)
  · have h := Sat_neg c11 h
    refine r_iconst (v := 1) dX10_ringLength_16 (by decide) ?_
    refine r_istore_n (lv' := [(3, .int (1 : Int32)), (2, .int x5), (0, .ref a0), (1, .int l1)]) dX10_ringLength_17 rfl (by decide) rfl ?_
    refine r_sub (lv' := [(0, .ref a0), (1, .int l1), (2, .int x5), (3, .int (1 : Int32))]) [2, 3, 1, 0] rfl ?_
    refine whl_K (s0 := ((x5, (1 : Int32)) : Int32 × Int32)) (RR := fun (s18 : Int32 × Int32) => Rn_X10_ringLength G (fun v μ' => v = some (.int r) ∧ μ' = μ) 18 [(0, .ref a0), (1, .int l1), (2, .int s18.1), (3, .int s18.2)] [] μ) ?_ (Sat_bindK h)
    intro s18 K18 hI18 hX18 h
    refine r_iload_n dX10_ringLength_18 2 rfl ?_
    refine r_iload_n dX10_ringLength_19 1 rfl ?_
    refine r_icmp_eq 44 dX10_ringLength_20 (by decide) (fun c20 => ?_) (fun c20 => ?_)
    · have h := Sat_pos c20 h
      have h := hX18 _ (Sat_some h)
      refine r_iload_n dX10_ringLength_44 3 rfl ?_
      exact r_ireturn rfl (by rw [← Sat_eq h]; exact ⟨rfl, rfl⟩) dX10_ringLength_45
    · have h := Sat_neg c20 h
      refine r_iload_n dX10_ringLength_23 3 rfl ?_
      refine r_bipush (v := 8) dX10_ringLength_24 (by decide) ?_
      refine r_icmp_ge 44 dX10_ringLength_26 (by decide) (fun c26 => ?_) (fun c26 => ?_)
      · have h := Sat_pos c26 h
        have h := hX18 _ (Sat_some h)
        refine r_iload_n dX10_ringLength_44 3 rfl ?_
        exact r_ireturn rfl (by rw [← Sat_eq h]; exact ⟨rfl, rfl⟩) dX10_ringLength_45
      · have h := Sat_neg c26 h
        refine r_aload_n dX10_ringLength_29 0 rfl ?_
        obtain ⟨x30, e30, h⟩ := Sat_bind h
        refine r_getI fk_X10_116 rfl e30 dX10_ringLength_30 ?_
        refine r_iload_n dX10_ringLength_33 2 rfl ?_
        obtain ⟨x34, e34, h⟩ := Sat_bind h
        refine r_cS [.int x30, .int s18.1] [] (m_X9_dreamOf x30 s18.1 μ e34) ck_X9_dreamOf lk_X10_199 st_X9_dreamOf rfl rfl (Nat.le_of_ble_eq_true rfl) ⟨by decide, by decide⟩ ⟨Nat.zero_le _, Nat.zero_le _⟩ dX10_ringLength_34 ?_
        refine r_istore_n (lv' := [(2, .int x34), (0, .ref a0), (1, .int l1), (3, .int s18.2)]) dX10_ringLength_37 rfl (by decide) rfl ?_
        obtain ⟨v38, e38, h⟩ := Sat_bind h
        refine r_iinc (j := 3) (v := v38) (lv' := [(3, .int v38), (2, .int x34), (0, .ref a0), (1, .int l1)]) dX10_ringLength_38 rfl (iinc_v e38 (by decide)) (by decide) rfl ?_
        refine r_goto 18 dX10_ringLength_41 (by decide) ?_
        exact r_sub [2, 3, 1, 0] rfl (hI18 _ (Sat_some h))
  · have h := Sat_pos c11 h
    refine r_iconst (v := 0) dX10_ringLength_14 (by decide) ?_
    exact r_ireturn rfl (by rw [← Sat_eq h]; exact ⟨rfl, rfl⟩) dX10_ringLength_15
theorem dX10_ring_0 : decode cX10_ring 0 = .ok (.iload_n 1, 1) := by decide +kernel
theorem dX10_ring_1 : decode cX10_ring 1 = .ok (.iconst (-1), 1) := by decide +kernel
theorem dX10_ring_2 : decode cX10_ring 2 = .ok (.if_icmp .ne 8, 3) := by decide +kernel
theorem dX10_ring_5 : decode cX10_ring 5 = .ok (.aload_n 0, 1) := by decide +kernel
theorem dX10_ring_6 : decode cX10_ring 6 = .ok (.invokevirtual 370, 3) := by decide +kernel
theorem dX10_ring_9 : decode cX10_ring 9 = .ok (.ireturn, 1) := by decide +kernel
theorem dX10_ring_10 : decode cX10_ring 10 = .ok (.aload_n 0, 1) := by decide +kernel
theorem dX10_ring_11 : decode cX10_ring 11 = .ok (.getfield 63, 3) := by decide +kernel
theorem dX10_ring_14 : decode cX10_ring 14 = .ok (.iload_n 1, 1) := by decide +kernel
theorem dX10_ring_15 : decode cX10_ring 15 = .ok (.invokevirtual 178, 3) := by decide +kernel
theorem dX10_ring_18 : decode cX10_ring 18 = .ok (.ifCond .eq 11, 3) := by decide +kernel
theorem dX10_ring_21 : decode cX10_ring 21 = .ok (.aload_n 0, 1) := by decide +kernel
theorem dX10_ring_22 : decode cX10_ring 22 = .ok (.iload_n 1, 1) := by decide +kernel
theorem dX10_ring_23 : decode cX10_ring 23 = .ok (.invokevirtual 373, 3) := by decide +kernel
theorem dX10_ring_26 : decode cX10_ring 26 = .ok (.goto 5, 3) := by decide +kernel
theorem dX10_ring_29 : decode cX10_ring 29 = .ok (.bipush (-2), 2) := by decide +kernel
theorem dX10_ring_31 : decode cX10_ring 31 = .ok (.ireturn, 1) := by decide +kernel
noncomputable def f_X10_ring (a0 : Nat) (l1 : Int32) (μ : Mm) : Option Int32 :=
  if (mm_K μ a0).1 = 11 then if l1 = (-1 : Int32) then (f_X10_howManyRings a0 μ).bind fun x6 => some x6 else (gf_P 11 13 a0 μ).bind fun x11 => (f_X7_isPerson x11 l1 μ).bind fun x15 => if x15 = 0 then some (-2 : Int32) else (f_X10_ringLength a0 l1 μ).bind fun x23 => some x23 else none
abbrev Rn_X10_ring (G : Gv) (Q : Option Value → Mm → Prop) (pc : Nat) (lv : List (Nat × Value)) (st : List Value) (μ : Mm) : Prop := Rn G RX10 cX10_ring 2 (some .int) "ring" (rmd 3 0 0) (Zm G 0 0 Q) 0 0 pc lv st μ
set_option maxRecDepth 100000 in
set_option maxHeartbeats 4000000 in
theorem m_X10_ring {G : Gv} (a0 : Nat) (l1 : Int32) (μ : Mm) {r : Int32} (hx : f_X10_ring a0 l1 μ = some r) : Mt G yX10_ring cX10_ring 2 (some .int) 3 0 0 [.ref a0, .int l1] μ (fun v μ' => v = some (.int r) ∧ μ' = μ) := by
  refine Mt.of (by decide) (Nat.le_of_ble_eq_true rfl) ?_
  show Rn_X10_ring G (fun v μ' => v = some (.int r) ∧ μ' = μ) 0 [(0, .ref a0), (1, .int l1)] [] μ
  obtain ⟨_, h⟩ := Sat_ifp (show Sat (f_X10_ring a0 l1 μ) (fun x => x = r) from ⟨_, hx, rfl⟩)
  refine r_iload_n dX10_ring_0 1 rfl ?_
  refine r_iconst (v := -1) dX10_ring_1 (by decide) ?_
  refine r_icmp_ne 10 dX10_ring_2 (by decide) (fun c2 => ?_) (fun c2 => ?_)
  · have h := Sat_neg c2 h
    refine r_aload_n dX10_ring_10 0 rfl ?_
    obtain ⟨x11, e11, h⟩ := Sat_bind h
    refine r_getP fk_X10_63 rfl e11 dX10_ring_11 ?_
    refine r_iload_n dX10_ring_14 1 rfl ?_
    obtain ⟨x15, e15, h⟩ := Sat_bind h
    refine r_cV (t := 8) [.int l1] [] (m_X7_isPerson x11 l1 μ e15) ck_X7_isPerson lk_X10_178 in_X7_isPerson se_X7_isPerson (kd_of e15) ⟨rfl, by decide, by decide⟩ rfl rfl (Nat.le_of_ble_eq_true rfl) ⟨by decide, by decide⟩ ⟨Nat.zero_le _, Nat.zero_le _⟩ dX10_ring_15 ?_
    refine r_if_eq 29 dX10_ring_18 (by decide) (fun c18 => ?_) (fun c18 => ?_)
    · have h := Sat_pos c18 h
      refine r_bipush (v := -2) dX10_ring_29 (by decide) ?_
      exact r_ireturn rfl (by rw [← Sat_eq h]; exact ⟨rfl, rfl⟩) dX10_ring_31
    · have h := Sat_neg c18 h
      refine r_aload_n dX10_ring_21 0 rfl ?_
      refine r_iload_n dX10_ring_22 1 rfl ?_
      obtain ⟨x23, e23, h⟩ := Sat_bind h
      refine r_cV (t := 11) [.int l1] [] (m_X10_ringLength a0 l1 μ e23) ck_X10_ringLength lk_X10_373 in_X10_ringLength se_X10_ringLength (kd_of e23) ⟨rfl, by decide, by decide⟩ rfl rfl (Nat.le_of_ble_eq_true rfl) ⟨by decide, by decide⟩ ⟨Nat.zero_le _, Nat.zero_le _⟩ dX10_ring_23 ?_
      refine r_goto 31 dX10_ring_26 (by decide) ?_
      exact r_ireturn rfl (by rw [← Sat_eq h]; exact ⟨rfl, rfl⟩) dX10_ring_31
  · have h := Sat_pos c2 h
    refine r_aload_n dX10_ring_5 0 rfl ?_
    obtain ⟨x6, e6, h⟩ := Sat_bind h
    refine r_cV (t := 11) [] [] (m_X10_howManyRings a0 μ e6) ck_X10_howManyRings lk_X10_370 in_X10_howManyRings se_X10_howManyRings (kd_of e6) ⟨rfl, by decide, by decide⟩ rfl rfl (Nat.le_of_ble_eq_true rfl) ⟨by decide, by decide⟩ ⟨Nat.zero_le _, Nat.zero_le _⟩ dX10_ring_6 ?_
    exact r_ireturn rfl (by rw [← Sat_eq h]; exact ⟨rfl, rfl⟩) dX10_ring_9
theorem dX10_waysOfRings_0 : decode cX10_waysOfRings 0 = .ok (.lconst 1, 1) := by decide +kernel
theorem dX10_waysOfRings_1 : decode cX10_waysOfRings 1 = .ok (.lstore_n 2, 1) := by decide +kernel
theorem dX10_waysOfRings_2 : decode cX10_waysOfRings 2 = .ok (.iconst 2, 1) := by decide +kernel
theorem dX10_waysOfRings_3 : decode cX10_waysOfRings 3 = .ok (.istore 4, 2) := by decide +kernel
theorem dX10_waysOfRings_5 : decode cX10_waysOfRings 5 = .ok (.iload 4, 2) := by decide +kernel
theorem dX10_waysOfRings_7 : decode cX10_waysOfRings 7 = .ok (.iload_n 1, 1) := by decide +kernel
theorem dX10_waysOfRings_8 : decode cX10_waysOfRings 8 = .ok (.if_icmp .gt 15, 3) := by decide +kernel
theorem dX10_waysOfRings_11 : decode cX10_waysOfRings 11 = .ok (.lload_n 2, 1) := by decide +kernel
theorem dX10_waysOfRings_12 : decode cX10_waysOfRings 12 = .ok (.iload 4, 2) := by decide +kernel
theorem dX10_waysOfRings_14 : decode cX10_waysOfRings 14 = .ok (.i2l, 1) := by decide +kernel
theorem dX10_waysOfRings_15 : decode cX10_waysOfRings 15 = .ok (.lmul, 1) := by decide +kernel
theorem dX10_waysOfRings_16 : decode cX10_waysOfRings 16 = .ok (.lstore_n 2, 1) := by decide +kernel
theorem dX10_waysOfRings_17 : decode cX10_waysOfRings 17 = .ok (.iinc 4 1, 3) := by decide +kernel
theorem dX10_waysOfRings_20 : decode cX10_waysOfRings 20 = .ok (.goto (-15), 3) := by decide +kernel
theorem dX10_waysOfRings_23 : decode cX10_waysOfRings 23 = .ok (.iconst 2, 1) := by decide +kernel
theorem dX10_waysOfRings_24 : decode cX10_waysOfRings 24 = .ok (.istore 4, 2) := by decide +kernel
theorem dX10_waysOfRings_26 : decode cX10_waysOfRings 26 = .ok (.iload 4, 2) := by decide +kernel
theorem dX10_waysOfRings_28 : decode cX10_waysOfRings 28 = .ok (.aload_n 0, 1) := by decide +kernel
theorem dX10_waysOfRings_29 : decode cX10_waysOfRings 29 = .ok (.getfield 53, 3) := by decide +kernel
theorem dX10_waysOfRings_32 : decode cX10_waysOfRings 32 = .ok (.arraylength, 1) := by decide +kernel
theorem dX10_waysOfRings_33 : decode cX10_waysOfRings 33 = .ok (.if_icmp .ge 40, 3) := by decide +kernel
theorem dX10_waysOfRings_36 : decode cX10_waysOfRings 36 = .ok (.iconst 1, 1) := by decide +kernel
theorem dX10_waysOfRings_37 : decode cX10_waysOfRings 37 = .ok (.istore 5, 2) := by decide +kernel
theorem dX10_waysOfRings_39 : decode cX10_waysOfRings 39 = .ok (.iload 5, 2) := by decide +kernel
theorem dX10_waysOfRings_41 : decode cX10_waysOfRings 41 = .ok (.aload_n 0, 1) := by decide +kernel
theorem dX10_waysOfRings_42 : decode cX10_waysOfRings 42 = .ok (.getfield 53, 3) := by decide +kernel
theorem dX10_waysOfRings_45 : decode cX10_waysOfRings 45 = .ok (.iload 4, 2) := by decide +kernel
theorem dX10_waysOfRings_47 : decode cX10_waysOfRings 47 = .ok (.iaload, 1) := by decide +kernel
theorem dX10_waysOfRings_48 : decode cX10_waysOfRings 48 = .ok (.if_icmp .gt 19, 3) := by decide +kernel
theorem dX10_waysOfRings_51 : decode cX10_waysOfRings 51 = .ok (.lload_n 2, 1) := by decide +kernel
theorem dX10_waysOfRings_52 : decode cX10_waysOfRings 52 = .ok (.iload 4, 2) := by decide +kernel
theorem dX10_waysOfRings_54 : decode cX10_waysOfRings 54 = .ok (.i2l, 1) := by decide +kernel
theorem dX10_waysOfRings_55 : decode cX10_waysOfRings 55 = .ok (.ldiv, 1) := by decide +kernel
theorem dX10_waysOfRings_56 : decode cX10_waysOfRings 56 = .ok (.iload 5, 2) := by decide +kernel
theorem dX10_waysOfRings_58 : decode cX10_waysOfRings 58 = .ok (.i2l, 1) := by decide +kernel
theorem dX10_waysOfRings_59 : decode cX10_waysOfRings 59 = .ok (.ldiv, 1) := by decide +kernel
theorem dX10_waysOfRings_60 : decode cX10_waysOfRings 60 = .ok (.lstore_n 2, 1) := by decide +kernel
theorem dX10_waysOfRings_61 : decode cX10_waysOfRings 61 = .ok (.iinc 5 1, 3) := by decide +kernel
theorem dX10_waysOfRings_64 : decode cX10_waysOfRings 64 = .ok (.goto (-25), 3) := by decide +kernel
theorem dX10_waysOfRings_67 : decode cX10_waysOfRings 67 = .ok (.iinc 4 1, 3) := by decide +kernel
theorem dX10_waysOfRings_70 : decode cX10_waysOfRings 70 = .ok (.goto (-44), 3) := by decide +kernel
theorem dX10_waysOfRings_73 : decode cX10_waysOfRings 73 = .ok (.lload_n 2, 1) := by decide +kernel
theorem dX10_waysOfRings_74 : decode cX10_waysOfRings 74 = .ok (.lreturn, 1) := by decide +kernel
noncomputable def f_X10_waysOfRings_J67 (a0 : Nat) (l2 : Int64) (l4 : Int32) (μ : Mm) : Option ((Int64 × Int32) ⊕ (Int64)) :=
  (some (l4 + (1 : Int32))).bind fun v67 => some (.inl (l2, v67))
noncomputable def f_X10_waysOfRings_L39 (a0 : Nat) (l4 : Int32) (μ : Mm) (s39 : Int64 × Int32) : Option ((Int64 × Int32) ⊕ (Int64)) :=
  (gf_P 11 11 a0 μ).bind fun x42 => (ga_I x42 l4 μ).bind fun x47 => if x47 < s39.2 then some (.inr s39.1) else if l4.toInt64 = 0 then none else if s39.2.toInt64 = 0 then none else (some ((s39.1 / l4.toInt64) / s39.2.toInt64)).bind fun v60 => (some (s39.2 + (1 : Int32))).bind fun v61 => some (.inl (v60, v61))
noncomputable def f_X10_waysOfRings_L26 (a0 : Nat) (μ : Mm) (s26 : Int64 × Int32) : Option ((Int64 × Int32) ⊕ (Int64)) :=
  (gf_P 11 11 a0 μ).bind fun x29 => (ga_len x29 μ).bind fun x32 => if x32 ≤ s26.2 then some (.inr s26.1) else (whl (f_X10_waysOfRings_L39 a0 s26.2 μ) (s26.1, (1 : Int32))).bind (fun b39 => f_X10_waysOfRings_J67 a0 b39 s26.2 μ)
noncomputable def f_X10_waysOfRings_J23 (a0 : Nat) (l2 : Int64) (μ : Mm) : Option Int64 :=
  (whl (f_X10_waysOfRings_L26 a0 μ) (l2, (2 : Int32))).bind (fun b26 => some b26)
noncomputable def f_X10_waysOfRings_L5 (a0 : Nat) (l1 : Int32) (μ : Mm) (s5 : Int64 × Int32) : Option ((Int64 × Int32) ⊕ (Int64)) :=
  if l1 < s5.2 then some (.inr s5.1) else (some (s5.1 * s5.2.toInt64)).bind fun v16 => (some (s5.2 + (1 : Int32))).bind fun v17 => some (.inl (v16, v17))
noncomputable def f_X10_waysOfRings (a0 : Nat) (l1 : Int32) (μ : Mm) : Option Int64 :=
  if (mm_K μ a0).1 = 11 then (whl (f_X10_waysOfRings_L5 a0 l1 μ) ((1 : Int64), (2 : Int32))).bind (fun b5 => f_X10_waysOfRings_J23 a0 b5 μ) else none
abbrev Rn_X10_waysOfRings (G : Gv) (Q : Option Value → Mm → Prop) (pc : Nat) (lv : List (Nat × Value)) (st : List Value) (μ : Mm) : Prop := Rn G RX10 cX10_waysOfRings 6 (some .long) "waysOfRings" (rmd 0 0 0) (Zm G 0 0 Q) 0 0 pc lv st μ
set_option maxRecDepth 100000 in
set_option maxHeartbeats 4000000 in
theorem m_X10_waysOfRings {G : Gv} (a0 : Nat) (l1 : Int32) (μ : Mm) {r : Int64} (hx : f_X10_waysOfRings a0 l1 μ = some r) : Mt G yX10_waysOfRings cX10_waysOfRings 6 (some .long) 0 0 0 [.ref a0, .int l1] μ (fun v μ' => v = some (.long r) ∧ μ' = μ) := by
  refine Mt.of (by decide) (Nat.le_of_ble_eq_true rfl) ?_
  show Rn_X10_waysOfRings G (fun v μ' => v = some (.long r) ∧ μ' = μ) 0 [(0, .ref a0), (1, .int l1)] [] μ
  obtain ⟨_, h⟩ := Sat_ifp (show Sat (f_X10_waysOfRings a0 l1 μ) (fun x => x = r) from ⟨_, hx, rfl⟩)
  have J23 : ∀ (a0_23 : Nat) (l2_23 : Int64), Sat (f_X10_waysOfRings_J23 a0_23 l2_23 μ) (fun x => x = r) → Rn_X10_waysOfRings G (fun v μ' => v = some (.long r) ∧ μ' = μ) 23 [(0, .ref a0_23), (2, .long l2_23)] [] μ := by
    intro a0_23 l2_23 h
    refine r_iconst (v := 2) dX10_waysOfRings_23 (by decide) ?_
    refine r_istore (lv' := [(4, .int (2 : Int32)), (0, .ref a0_23), (2, .long l2_23)]) dX10_waysOfRings_24 (by decide) rfl ?_
    refine r_sub (lv' := [(0, .ref a0_23), (2, .long l2_23), (4, .int (2 : Int32))]) [1, 2, 0] rfl ?_
    refine whl_K (s0 := ((l2_23, (2 : Int32)) : Int64 × Int32)) (RR := fun (s26 : Int64 × Int32) => Rn_X10_waysOfRings G (fun v μ' => v = some (.long r) ∧ μ' = μ) 26 [(0, .ref a0_23), (2, .long s26.1), (4, .int s26.2)] [] μ) ?_ (Sat_bindK h)
    intro s26 K26 hI26 hX26 h
    have J67 : ∀ (l2_67 : Int64) (l4_67 : Int32), Sat (f_X10_waysOfRings_J67 a0_23 l2_67 l4_67 μ) K26 → Rn_X10_waysOfRings G (fun v μ' => v = some (.long r) ∧ μ' = μ) 67 [(0, .ref a0_23), (2, .long l2_67), (4, .int l4_67)] [] μ := by
      intro l2_67 l4_67 h
      obtain ⟨v67, e67, h⟩ := Sat_bind h
      refine r_iinc (j := 2) (v := v67) (lv' := [(4, .int v67), (0, .ref a0_23), (2, .long l2_67)]) dX10_waysOfRings_67 rfl (iinc_v e67 (by decide)) (by decide) rfl ?_
      refine r_goto 26 dX10_waysOfRings_70 (by decide) ?_
      exact r_sub [1, 2, 0] rfl (hI26 _ (Sat_some h))
    refine r_iload dX10_waysOfRings_26 2 rfl ?_
    refine r_aload_n dX10_waysOfRings_28 0 rfl ?_
    obtain ⟨x29, e29, h⟩ := Sat_bind h
    refine r_getP fk_X10_53 rfl e29 dX10_waysOfRings_29 ?_
    obtain ⟨x32, e32, h⟩ := Sat_bind h
    refine r_len e32 dX10_waysOfRings_32 ?_
    refine r_icmp_ge 73 dX10_waysOfRings_33 (by decide) (fun c33 => ?_) (fun c33 => ?_)
    · have h := Sat_pos c33 h
      have h := hX26 _ (Sat_some h)
      refine r_lload_n dX10_waysOfRings_73 1 rfl ?_
      exact r_lreturn rfl (by rw [← Sat_eq h]; exact ⟨rfl, rfl⟩) dX10_waysOfRings_74
    · have h := Sat_neg c33 h
      refine r_iconst (v := 1) dX10_waysOfRings_36 (by decide) ?_
      refine r_istore (lv' := [(5, .int (1 : Int32)), (0, .ref a0_23), (2, .long s26.1), (4, .int s26.2)]) dX10_waysOfRings_37 (by decide) rfl ?_
      refine r_sub (lv' := [(0, .ref a0_23), (2, .long s26.1), (4, .int s26.2), (5, .int (1 : Int32))]) [1, 2, 3, 0] rfl ?_
      refine whl_K (s0 := ((s26.1, (1 : Int32)) : Int64 × Int32)) (RR := fun (s39 : Int64 × Int32) => Rn_X10_waysOfRings G (fun v μ' => v = some (.long r) ∧ μ' = μ) 39 [(0, .ref a0_23), (2, .long s39.1), (4, .int s26.2), (5, .int s39.2)] [] μ) ?_ (Sat_bindK h)
      intro s39 K39 hI39 hX39 h
      refine r_iload dX10_waysOfRings_39 3 rfl ?_
      refine r_aload_n dX10_waysOfRings_41 0 rfl ?_
      obtain ⟨x42, e42, h⟩ := Sat_bind h
      refine r_getP fk_X10_53 rfl e42 dX10_waysOfRings_42 ?_
      refine r_iload dX10_waysOfRings_45 2 rfl ?_
      obtain ⟨x47, e47, h⟩ := Sat_bind h
      refine r_iaload e47 dX10_waysOfRings_47 ?_
      refine r_icmp_gt 67 dX10_waysOfRings_48 (by decide) (fun c48 => ?_) (fun c48 => ?_)
      · have h := Sat_pos c48 h
        have h := hX39 _ (Sat_some h)
        exact r_sub [0, 1, 2] rfl (J67 s39.1 s26.2 h)
      · have h := Sat_neg c48 h
        refine r_lload_n dX10_waysOfRings_51 1 rfl ?_
        refine r_iload dX10_waysOfRings_52 2 rfl ?_
        refine r_i2l dX10_waysOfRings_54 ?_
        obtain ⟨z55, h⟩ := Sat_ifn h
        refine r_ldiv dX10_waysOfRings_55 z55 ?_
        refine r_iload dX10_waysOfRings_56 3 rfl ?_
        refine r_i2l dX10_waysOfRings_58 ?_
        obtain ⟨z59, h⟩ := Sat_ifn h
        refine r_ldiv dX10_waysOfRings_59 z59 ?_
        obtain ⟨v60, e60, h⟩ := Sat_bind h
        refine r_topl (Option.some.inj e60) ?_
        refine r_lstore_n (lv' := [(2, .long v60), (0, .ref a0_23), (4, .int s26.2), (5, .int s39.2)]) dX10_waysOfRings_60 rfl (by decide) rfl ?_
        obtain ⟨v61, e61, h⟩ := Sat_bind h
        refine r_iinc (j := 3) (v := v61) (lv' := [(5, .int v61), (2, .long v60), (0, .ref a0_23), (4, .int s26.2)]) dX10_waysOfRings_61 rfl (iinc_v e61 (by decide)) (by decide) rfl ?_
        refine r_goto 39 dX10_waysOfRings_64 (by decide) ?_
        exact r_sub [2, 1, 3, 0] rfl (hI39 _ (Sat_some h))
  refine r_lconst (v := 1) dX10_waysOfRings_0 (by decide) ?_
  refine r_lstore_n (lv' := [(2, .long (1 : Int64)), (0, .ref a0), (1, .int l1)]) dX10_waysOfRings_1 rfl (by decide) rfl ?_
  refine r_iconst (v := 2) dX10_waysOfRings_2 (by decide) ?_
  refine r_istore (lv' := [(4, .int (2 : Int32)), (2, .long (1 : Int64)), (0, .ref a0), (1, .int l1)]) dX10_waysOfRings_3 (by decide) rfl ?_
  refine r_sub (lv' := [(0, .ref a0), (1, .int l1), (2, .long (1 : Int64)), (4, .int (2 : Int32))]) [2, 3, 1, 0] rfl ?_
  refine whl_K (s0 := (((1 : Int64), (2 : Int32)) : Int64 × Int32)) (RR := fun (s5 : Int64 × Int32) => Rn_X10_waysOfRings G (fun v μ' => v = some (.long r) ∧ μ' = μ) 5 [(0, .ref a0), (1, .int l1), (2, .long s5.1), (4, .int s5.2)] [] μ) ?_ (Sat_bindK h)
  intro s5 K5 hI5 hX5 h
  refine r_iload dX10_waysOfRings_5 3 rfl ?_
  refine r_iload_n dX10_waysOfRings_7 1 rfl ?_
  refine r_icmp_gt 23 dX10_waysOfRings_8 (by decide) (fun c8 => ?_) (fun c8 => ?_)
  · have h := Sat_pos c8 h
    have h := hX5 _ (Sat_some h)
    exact r_sub [0, 2] rfl (J23 a0 s5.1 h)
  · have h := Sat_neg c8 h
    refine r_lload_n dX10_waysOfRings_11 2 rfl ?_
    refine r_iload dX10_waysOfRings_12 3 rfl ?_
    refine r_i2l dX10_waysOfRings_14 ?_
    refine r_lmul dX10_waysOfRings_15 ?_
    obtain ⟨v16, e16, h⟩ := Sat_bind h
    refine r_topl (Option.some.inj e16) ?_
    refine r_lstore_n (lv' := [(2, .long v16), (0, .ref a0), (1, .int l1), (4, .int s5.2)]) dX10_waysOfRings_16 rfl (by decide) rfl ?_
    obtain ⟨v17, e17, h⟩ := Sat_bind h
    refine r_iinc (j := 3) (v := v17) (lv' := [(4, .int v17), (2, .long v16), (0, .ref a0), (1, .int l1)]) dX10_waysOfRings_17 rfl (iinc_v e17 (by decide)) (by decide) rfl ?_
    refine r_goto 5 dX10_waysOfRings_20 (by decide) ?_
    exact r_sub [2, 3, 1, 0] rfl (hI5 _ (Sat_some h))
theorem dX10_ringsOnTape_0 : decode cX10_ringsOnTape 0 = .ok (.aload_n 0, 1) := by decide +kernel
theorem dX10_ringsOnTape_1 : decode cX10_ringsOnTape 1 = .ok (.getfield 53, 3) := by decide +kernel
theorem dX10_ringsOnTape_4 : decode cX10_ringsOnTape 4 = .ok (.iconst 0, 1) := by decide +kernel
theorem dX10_ringsOnTape_5 : decode cX10_ringsOnTape 5 = .ok (.invokestatic 350, 3) := by decide +kernel
theorem dX10_ringsOnTape_8 : decode cX10_ringsOnTape 8 = .ok (.aload_n 0, 1) := by decide +kernel
theorem dX10_ringsOnTape_9 : decode cX10_ringsOnTape 9 = .ok (.getfield 21, 3) := by decide +kernel
theorem dX10_ringsOnTape_12 : decode cX10_ringsOnTape 12 = .ok (.invokevirtual 248, 3) := by decide +kernel
theorem dX10_ringsOnTape_15 : decode cX10_ringsOnTape 15 = .ok (.iconst 0, 1) := by decide +kernel
theorem dX10_ringsOnTape_16 : decode cX10_ringsOnTape 16 = .ok (.istore_n 1, 1) := by decide +kernel
theorem dX10_ringsOnTape_17 : decode cX10_ringsOnTape 17 = .ok (.iconst 0, 1) := by decide +kernel
theorem dX10_ringsOnTape_18 : decode cX10_ringsOnTape 18 = .ok (.istore_n 2, 1) := by decide +kernel
theorem dX10_ringsOnTape_19 : decode cX10_ringsOnTape 19 = .ok (.iload_n 2, 1) := by decide +kernel
theorem dX10_ringsOnTape_20 : decode cX10_ringsOnTape 20 = .ok (.bipush 10, 2) := by decide +kernel
theorem dX10_ringsOnTape_22 : decode cX10_ringsOnTape 22 = .ok (.if_icmp .gt 108, 3) := by decide +kernel
theorem dX10_ringsOnTape_25 : decode cX10_ringsOnTape 25 = .ok (.aload_n 0, 1) := by decide +kernel
theorem dX10_ringsOnTape_26 : decode cX10_ringsOnTape 26 = .ok (.getfield 21, 3) := by decide +kernel
theorem dX10_ringsOnTape_29 : decode cX10_ringsOnTape 29 = .ok (.invokevirtual 251, 3) := by decide +kernel
theorem dX10_ringsOnTape_32 : decode cX10_ringsOnTape 32 = .ok (.aload_n 0, 1) := by decide +kernel
theorem dX10_ringsOnTape_33 : decode cX10_ringsOnTape 33 = .ok (.getfield 21, 3) := by decide +kernel
theorem dX10_ringsOnTape_36 : decode cX10_ringsOnTape 36 = .ok (.getfield 254, 3) := by decide +kernel
theorem dX10_ringsOnTape_39 : decode cX10_ringsOnTape 39 = .ok (.ifCond .ne 9, 3) := by decide +kernel
theorem dX10_ringsOnTape_42 : decode cX10_ringsOnTape 42 = .ok (.aload_n 0, 1) := by decide +kernel
theorem dX10_ringsOnTape_43 : decode cX10_ringsOnTape 43 = .ok (.iload_n 1, 1) := by decide +kernel
theorem dX10_ringsOnTape_44 : decode cX10_ringsOnTape 44 = .ok (.invokevirtual 403, 3) := by decide +kernel
theorem dX10_ringsOnTape_47 : decode cX10_ringsOnTape 47 = .ok (.lreturn, 1) := by decide +kernel
theorem dX10_ringsOnTape_48 : decode cX10_ringsOnTape 48 = .ok (.aload_n 0, 1) := by decide +kernel
theorem dX10_ringsOnTape_49 : decode cX10_ringsOnTape 49 = .ok (.getfield 21, 3) := by decide +kernel
theorem dX10_ringsOnTape_52 : decode cX10_ringsOnTape 52 = .ok (.getfield 254, 3) := by decide +kernel
theorem dX10_ringsOnTape_55 : decode cX10_ringsOnTape 55 = .ok (.iconst 2, 1) := by decide +kernel
theorem dX10_ringsOnTape_56 : decode cX10_ringsOnTape 56 = .ok (.if_icmp .ne 18, 3) := by decide +kernel
theorem dX10_ringsOnTape_59 : decode cX10_ringsOnTape 59 = .ok (.aload_n 0, 1) := by decide +kernel
theorem dX10_ringsOnTape_60 : decode cX10_ringsOnTape 60 = .ok (.getfield 21, 3) := by decide +kernel
theorem dX10_ringsOnTape_63 : decode cX10_ringsOnTape 63 = .ok (.getfield 264, 3) := by decide +kernel
theorem dX10_ringsOnTape_66 : decode cX10_ringsOnTape 66 = .ok (.iconst 2, 1) := by decide +kernel
theorem dX10_ringsOnTape_67 : decode cX10_ringsOnTape 67 = .ok (.if_icmp .lt 7, 3) := by decide +kernel
theorem dX10_ringsOnTape_70 : decode cX10_ringsOnTape 70 = .ok (.iconst 1, 1) := by decide +kernel
theorem dX10_ringsOnTape_71 : decode cX10_ringsOnTape 71 = .ok (.goto 4, 3) := by decide +kernel
theorem dX10_ringsOnTape_74 : decode cX10_ringsOnTape 74 = .ok (.iconst 0, 1) := by decide +kernel
theorem dX10_ringsOnTape_75 : decode cX10_ringsOnTape 75 = .ok (.istore_n 3, 1) := by decide +kernel
theorem dX10_ringsOnTape_76 : decode cX10_ringsOnTape 76 = .ok (.iload_n 3, 1) := by decide +kernel
theorem dX10_ringsOnTape_77 : decode cX10_ringsOnTape 77 = .ok (.ifCond .eq 17, 3) := by decide +kernel
theorem dX10_ringsOnTape_80 : decode cX10_ringsOnTape 80 = .ok (.aload_n 0, 1) := by decide +kernel
theorem dX10_ringsOnTape_81 : decode cX10_ringsOnTape 81 = .ok (.getfield 21, 3) := by decide +kernel
theorem dX10_ringsOnTape_84 : decode cX10_ringsOnTape 84 = .ok (.getfield 264, 3) := by decide +kernel
theorem dX10_ringsOnTape_87 : decode cX10_ringsOnTape 87 = .ok (.bipush 20, 2) := by decide +kernel
theorem dX10_ringsOnTape_89 : decode cX10_ringsOnTape 89 = .ok (.iload_n 1, 1) := by decide +kernel
theorem dX10_ringsOnTape_90 : decode cX10_ringsOnTape 90 = .ok (.isub, 1) := by decide +kernel
theorem dX10_ringsOnTape_91 : decode cX10_ringsOnTape 91 = .ok (.if_icmp .le 7, 3) := by decide +kernel
theorem dX10_ringsOnTape_94 : decode cX10_ringsOnTape 94 = .ok (.ldc2_w 407, 3) := by decide +kernel
theorem dX10_ringsOnTape_97 : decode cX10_ringsOnTape 97 = .ok (.lreturn, 1) := by decide +kernel
theorem dX10_ringsOnTape_98 : decode cX10_ringsOnTape 98 = .ok (.iload_n 1, 1) := by decide +kernel
theorem dX10_ringsOnTape_99 : decode cX10_ringsOnTape 99 = .ok (.aload_n 0, 1) := by decide +kernel
theorem dX10_ringsOnTape_100 : decode cX10_ringsOnTape 100 = .ok (.getfield 21, 3) := by decide +kernel
theorem dX10_ringsOnTape_103 : decode cX10_ringsOnTape 103 = .ok (.getfield 264, 3) := by decide +kernel
theorem dX10_ringsOnTape_106 : decode cX10_ringsOnTape 106 = .ok (.iadd, 1) := by decide +kernel
theorem dX10_ringsOnTape_107 : decode cX10_ringsOnTape 107 = .ok (.istore_n 1, 1) := by decide +kernel
theorem dX10_ringsOnTape_108 : decode cX10_ringsOnTape 108 = .ok (.aload_n 0, 1) := by decide +kernel
theorem dX10_ringsOnTape_109 : decode cX10_ringsOnTape 109 = .ok (.getfield 53, 3) := by decide +kernel
theorem dX10_ringsOnTape_112 : decode cX10_ringsOnTape 112 = .ok (.aload_n 0, 1) := by decide +kernel
theorem dX10_ringsOnTape_113 : decode cX10_ringsOnTape 113 = .ok (.getfield 21, 3) := by decide +kernel
theorem dX10_ringsOnTape_116 : decode cX10_ringsOnTape 116 = .ok (.getfield 264, 3) := by decide +kernel
theorem dX10_ringsOnTape_119 : decode cX10_ringsOnTape 119 = .ok (.dup2, 1) := by decide +kernel
theorem dX10_ringsOnTape_120 : decode cX10_ringsOnTape 120 = .ok (.iaload, 1) := by decide +kernel
theorem dX10_ringsOnTape_121 : decode cX10_ringsOnTape 121 = .ok (.iconst 1, 1) := by decide +kernel
theorem dX10_ringsOnTape_122 : decode cX10_ringsOnTape 122 = .ok (.iadd, 1) := by decide +kernel
theorem dX10_ringsOnTape_123 : decode cX10_ringsOnTape 123 = .ok (.iastore, 1) := by decide +kernel
theorem dX10_ringsOnTape_124 : decode cX10_ringsOnTape 124 = .ok (.iinc 2 1, 3) := by decide +kernel
theorem dX10_ringsOnTape_127 : decode cX10_ringsOnTape 127 = .ok (.goto (-108), 3) := by decide +kernel
theorem dX10_ringsOnTape_130 : decode cX10_ringsOnTape 130 = .ok (.ldc2_w 407, 3) := by decide +kernel
theorem dX10_ringsOnTape_133 : decode cX10_ringsOnTape 133 = .ok (.lreturn, 1) := by decide +kernel
noncomputable def f_X10_ringsOnTape_J75 (a0 : Nat) (l1 : Int32) (l2 : Int32) (k0 : Int32) (μ : Mm) : Option ((Int32 × Int32 × Mm) ⊕ ((Int32 × Mm) ⊕ ((Mm) ⊕ (Mm)))) :=
  if k0 = 0 then some (.inr (.inr (.inl μ))) else (gf_P 11 1 a0 μ).bind fun x81 => (gf_I 7 5 x81 μ).bind fun x84 => if x84 ≤ ((20 : Int32) - l1) then (gf_P 11 1 a0 μ).bind fun x100 => (gf_I 7 5 x100 μ).bind fun x103 => (some (l1 + x103)).bind fun v107 => (gf_P 11 11 a0 μ).bind fun x109 => (gf_P 11 1 a0 μ).bind fun x113 => (gf_I 7 5 x113 μ).bind fun x116 => (ga_I x109 x116 μ).bind fun x120 => (pa_I x109 x116 (x120 + (1 : Int32)) μ).bind fun μ123 => (some (l2 + (1 : Int32))).bind fun v124 => some (.inl (v107, v124, μ123)) else some (.inr (.inr (.inl μ)))
noncomputable def f_X10_ringsOnTape_J74 (a0 : Nat) (l1 : Int32) (l2 : Int32) (μ : Mm) : Option ((Int32 × Int32 × Mm) ⊕ ((Int32 × Mm) ⊕ ((Mm) ⊕ (Mm)))) :=
  f_X10_ringsOnTape_J75 a0 l1 l2 (0 : Int32) μ
noncomputable def f_X10_ringsOnTape_J42 (a0 : Nat) (l1 : Int32) (μ : Mm) : Option (Int64 × Mm) :=
  (f_X10_waysOfRings a0 l1 μ).bind fun x44 => some (x44, μ)
noncomputable def f_X10_ringsOnTape_L19 (a0 : Nat) (s19 : Int32 × Int32 × Mm) : Option ((Int32 × Int32 × Mm) ⊕ ((Int32 × Mm) ⊕ ((Mm) ⊕ (Mm)))) :=
  if (10 : Int32) < s19.2.1 then some (.inr (.inr (.inr s19.2.2))) else (gf_P 11 1 a0 s19.2.2).bind fun x26 => (f_X6_advance x26 s19.2.2).bind fun x29 => (gf_P 11 1 a0 x29).bind fun x33 => (gf_I 7 2 x33 x29).bind fun x36 => if x36 = 0 then some (.inr (.inl (s19.1, x29))) else (gf_P 11 1 a0 x29).bind fun x49 => (gf_I 7 2 x49 x29).bind fun x52 => if x52 = (2 : Int32) then (gf_P 11 1 a0 x29).bind fun x60 => (gf_I 7 5 x60 x29).bind fun x63 => if x63 < (2 : Int32) then f_X10_ringsOnTape_J74 a0 s19.1 s19.2.1 x29 else f_X10_ringsOnTape_J75 a0 s19.1 s19.2.1 (1 : Int32) x29 else f_X10_ringsOnTape_J74 a0 s19.1 s19.2.1 x29
noncomputable def f_X10_ringsOnTape (a0 : Nat) (μ : Mm) : Option (Int64 × Mm) :=
  if (mm_K μ a0).1 = 11 then (gf_P 11 11 a0 μ).bind fun x1 => (f_J7_fill_53178 x1 (0 : Int32) μ).bind fun x5 => (gf_P 11 1 a0 x5).bind fun x9 => (f_X6_rewind x9 x5).bind fun x12 => (whl (f_X10_ringsOnTape_L19 a0) ((0 : Int32), (0 : Int32), x12)).bind (sm (fun b19 => f_X10_ringsOnTape_J42 a0 b19.1 b19.2) (sm (fun b19 => some ((-1 : Int64), b19)) (fun b19 => some ((-1 : Int64), b19)))) else none
abbrev Rn_X10_ringsOnTape (G : Gv) (Q : Option Value → Mm → Prop) (pc : Nat) (lv : List (Nat × Value)) (st : List Value) (μ : Mm) : Prop := Rn G RX10 cX10_ringsOnTape 4 (some .long) "ringsOnTape" (rmd 3 0 0) (Zm G 0 0 Q) 0 0 pc lv st μ
set_option maxRecDepth 100000 in
set_option maxHeartbeats 4000000 in
theorem m_X10_ringsOnTape {G : Gv} (a0 : Nat) (μ : Mm) {r : (Int64 × Mm)} (hx : f_X10_ringsOnTape a0 μ = some r) : Mt G yX10_ringsOnTape cX10_ringsOnTape 4 (some .long) 3 0 0 [.ref a0] μ (fun v μ' => v = some (.long r.1) ∧ μ' = r.2) := by
  refine Mt.of (by decide) (Nat.le_of_ble_eq_true rfl) ?_
  show Rn_X10_ringsOnTape G (fun v μ' => v = some (.long r.1) ∧ μ' = r.2) 0 [(0, .ref a0)] [] μ
  obtain ⟨_, h⟩ := Sat_ifp (show Sat (f_X10_ringsOnTape a0 μ) (fun x => x = r) from ⟨_, hx, rfl⟩)
  have J42 : ∀ (a0_42 : Nat) (l1_42 : Int32) (μ_42 : Mm), Sat (f_X10_ringsOnTape_J42 a0_42 l1_42 μ_42) (fun x => x = r) → Rn_X10_ringsOnTape G (fun v μ' => v = some (.long r.1) ∧ μ' = r.2) 42 [(0, .ref a0_42), (1, .int l1_42)] [] μ_42 := by
    intro a0_42 l1_42 μ_42 h
    refine r_aload_n dX10_ringsOnTape_42 0 rfl ?_
    refine r_iload_n dX10_ringsOnTape_43 1 rfl ?_
    obtain ⟨x44, e44, h⟩ := Sat_bind h
    refine r_cV (t := 11) [.int l1_42] [] (m_X10_waysOfRings a0_42 l1_42 μ_42 e44) ck_X10_waysOfRings lk_X10_403 in_X10_waysOfRings se_X10_waysOfRings (kd_of e44) ⟨rfl, by decide, by decide⟩ rfl rfl (Nat.le_of_ble_eq_true rfl) ⟨by decide, by decide⟩ ⟨Nat.zero_le _, Nat.zero_le _⟩ dX10_ringsOnTape_44 ?_
    exact r_lreturn rfl (by rw [← Sat_eq h]; exact ⟨rfl, rfl⟩) dX10_ringsOnTape_47
  refine r_aload_n dX10_ringsOnTape_0 0 rfl ?_
  obtain ⟨x1, e1, h⟩ := Sat_bind h
  refine r_getP fk_X10_53 rfl e1 dX10_ringsOnTape_1 ?_
  refine r_iconst (v := 0) dX10_ringsOnTape_4 (by decide) ?_
  obtain ⟨x5, e5, h⟩ := Sat_bind h
  refine r_cS [.ref x1, .int (0 : Int32)] [] (m_J7_fill_53178 x1 (0 : Int32) μ e5) ck_J7_fill_53178 lk_X10_350 st_J7_fill_53178 rfl rfl (Nat.le_of_ble_eq_true rfl) ⟨by decide, by decide⟩ ⟨Nat.zero_le _, Nat.zero_le _⟩ dX10_ringsOnTape_5 ?_
  refine r_aload_n dX10_ringsOnTape_8 0 rfl ?_
  obtain ⟨x9, e9, h⟩ := Sat_bind h
  refine r_getP fk_X10_21 rfl e9 dX10_ringsOnTape_9 ?_
  obtain ⟨x12, e12, h⟩ := Sat_bind h
  refine r_cV (t := 7) [] [] (m_X6_rewind x9 x5 e12) ck_X6_rewind lk_X10_248 in_X6_rewind se_X6_rewind (kd_of e12) ⟨rfl, by decide, by decide⟩ rfl rfl (Nat.le_of_ble_eq_true rfl) ⟨by decide, by decide⟩ ⟨Nat.zero_le _, Nat.zero_le _⟩ dX10_ringsOnTape_12 ?_
  refine r_iconst (v := 0) dX10_ringsOnTape_15 (by decide) ?_
  refine r_istore_n (lv' := [(1, .int (0 : Int32)), (0, .ref a0)]) dX10_ringsOnTape_16 rfl (by decide) rfl ?_
  refine r_iconst (v := 0) dX10_ringsOnTape_17 (by decide) ?_
  refine r_istore_n (lv' := [(2, .int (0 : Int32)), (1, .int (0 : Int32)), (0, .ref a0)]) dX10_ringsOnTape_18 rfl (by decide) rfl ?_
  refine r_sub (lv' := [(0, .ref a0), (1, .int (0 : Int32)), (2, .int (0 : Int32))]) [2, 1, 0] rfl ?_
  refine whl_K (s0 := (((0 : Int32), (0 : Int32), x12) : Int32 × Int32 × Mm)) (RR := fun (s19 : Int32 × Int32 × Mm) => Rn_X10_ringsOnTape G (fun v μ' => v = some (.long r.1) ∧ μ' = r.2) 19 [(0, .ref a0), (1, .int s19.1), (2, .int s19.2.1)] [] s19.2.2) ?_ (Sat_bindK h)
  intro s19 K19 hI19 hX19 h
  have J75 : ∀ (l1_75 : Int32) (l2_75 : Int32) (k0_75 : Int32) (μ_75 : Mm), Sat (f_X10_ringsOnTape_J75 a0 l1_75 l2_75 k0_75 μ_75) K19 → Rn_X10_ringsOnTape G (fun v μ' => v = some (.long r.1) ∧ μ' = r.2) 75 [(0, .ref a0), (1, .int l1_75), (2, .int l2_75)] [.int k0_75] μ_75 := by
    intro l1_75 l2_75 k0_75 μ_75 h
    refine r_istore_n (lv' := [(3, .int k0_75), (0, .ref a0), (1, .int l1_75), (2, .int l2_75)]) dX10_ringsOnTape_75 rfl (by decide) rfl ?_
    refine r_iload_n dX10_ringsOnTape_76 0 rfl ?_
    refine r_if_eq 94 dX10_ringsOnTape_77 (by decide) (fun c77 => ?_) (fun c77 => ?_)
    · have h := Sat_pos c77 h
      have h := hX19 _ (Sat_some h)
      refine r_ldc2 (v := -1) dX10_ringsOnTape_94 kc_X10_407 ?_
      exact r_lreturn rfl (by rw [← Sat_eq h]; exact ⟨rfl, rfl⟩) dX10_ringsOnTape_97
    · have h := Sat_neg c77 h
      refine r_aload_n dX10_ringsOnTape_80 1 rfl ?_
      obtain ⟨x81, e81, h⟩ := Sat_bind h
      refine r_getP fk_X10_21 rfl e81 dX10_ringsOnTape_81 ?_
      obtain ⟨x84, e84, h⟩ := Sat_bind h
      refine r_getI fk_X10_264 rfl e84 dX10_ringsOnTape_84 ?_
      refine r_bipush (v := 20) dX10_ringsOnTape_87 (by decide) ?_
      refine r_iload_n dX10_ringsOnTape_89 2 rfl ?_
      refine r_isub dX10_ringsOnTape_90 ?_
      refine r_icmp_le 98 dX10_ringsOnTape_91 (by decide) (fun c91 => ?_) (fun c91 => ?_)
      · have h := Sat_pos c91 h
        refine r_iload_n dX10_ringsOnTape_98 2 rfl ?_
        refine r_aload_n dX10_ringsOnTape_99 1 rfl ?_
        obtain ⟨x100, e100, h⟩ := Sat_bind h
        refine r_getP fk_X10_21 rfl e100 dX10_ringsOnTape_100 ?_
        obtain ⟨x103, e103, h⟩ := Sat_bind h
        refine r_getI fk_X10_264 rfl e103 dX10_ringsOnTape_103 ?_
        refine r_iadd dX10_ringsOnTape_106 ?_
        obtain ⟨v107, e107, h⟩ := Sat_bind h
        refine r_topi (Option.some.inj e107) ?_
        refine r_istore_n (lv' := [(1, .int v107), (3, .int k0_75), (0, .ref a0), (2, .int l2_75)]) dX10_ringsOnTape_107 rfl (by decide) rfl ?_
        refine r_aload_n dX10_ringsOnTape_108 2 rfl ?_
        obtain ⟨x109, e109, h⟩ := Sat_bind h
        refine r_getP fk_X10_53 rfl e109 dX10_ringsOnTape_109 ?_
        refine r_aload_n dX10_ringsOnTape_112 2 rfl ?_
        obtain ⟨x113, e113, h⟩ := Sat_bind h
        refine r_getP fk_X10_21 rfl e113 dX10_ringsOnTape_113 ?_
        obtain ⟨x116, e116, h⟩ := Sat_bind h
        refine r_getI fk_X10_264 rfl e116 dX10_ringsOnTape_116 ?_
        refine r_dup2_11 dX10_ringsOnTape_119 rfl rfl ?_
        obtain ⟨x120, e120, h⟩ := Sat_bind h
        refine r_iaload e120 dX10_ringsOnTape_120 ?_
        refine r_iconst (v := 1) dX10_ringsOnTape_121 (by decide) ?_
        refine r_iadd dX10_ringsOnTape_122 ?_
        obtain ⟨μ123, e123, h⟩ := Sat_bind h
        refine r_iastore e123 dX10_ringsOnTape_123 ?_
        obtain ⟨v124, e124, h⟩ := Sat_bind h
        refine r_iinc (j := 3) (v := v124) (lv' := [(2, .int v124), (1, .int v107), (3, .int k0_75), (0, .ref a0)]) dX10_ringsOnTape_124 rfl (iinc_v e124 (by decide)) (by decide) rfl ?_
        refine r_goto 19 dX10_ringsOnTape_127 (by decide) ?_
        exact r_sub [3, 1, 0] rfl (hI19 _ (Sat_some h))
      · have h := Sat_neg c91 h
        have h := hX19 _ (Sat_some h)
        refine r_ldc2 (v := -1) dX10_ringsOnTape_94 kc_X10_407 ?_
        exact r_lreturn rfl (by rw [← Sat_eq h]; exact ⟨rfl, rfl⟩) dX10_ringsOnTape_97
  have J74 : ∀ (l1_74 : Int32) (l2_74 : Int32) (μ_74 : Mm), Sat (f_X10_ringsOnTape_J74 a0 l1_74 l2_74 μ_74) K19 → Rn_X10_ringsOnTape G (fun v μ' => v = some (.long r.1) ∧ μ' = r.2) 74 [(0, .ref a0), (1, .int l1_74), (2, .int l2_74)] [] μ_74 := by
    intro l1_74 l2_74 μ_74 h
    refine r_iconst (v := 0) dX10_ringsOnTape_74 (by decide) ?_
    exact r_sub [0, 1, 2] rfl (J75 l1_74 l2_74 (0 : Int32) μ_74 h)
  refine r_iload_n dX10_ringsOnTape_19 2 rfl ?_
  refine r_bipush (v := 10) dX10_ringsOnTape_20 (by decide) ?_
  refine r_icmp_gt 130 dX10_ringsOnTape_22 (by decide) (fun c22 => ?_) (fun c22 => ?_)
  · have h := Sat_pos c22 h
    have h := hX19 _ (Sat_some h)
    refine r_ldc2 (v := -1) dX10_ringsOnTape_130 kc_X10_407 ?_
    exact r_lreturn rfl (by rw [← Sat_eq h]; exact ⟨rfl, rfl⟩) dX10_ringsOnTape_133
  · have h := Sat_neg c22 h
    refine r_aload_n dX10_ringsOnTape_25 0 rfl ?_
    obtain ⟨x26, e26, h⟩ := Sat_bind h
    refine r_getP fk_X10_21 rfl e26 dX10_ringsOnTape_26 ?_
    obtain ⟨x29, e29, h⟩ := Sat_bind h
    refine r_cV (t := 7) [] [] (m_X6_advance x26 s19.2.2 e29) ck_X6_advance lk_X10_251 in_X6_advance se_X6_advance (kd_of e29) ⟨rfl, by decide, by decide⟩ rfl rfl (Nat.le_of_ble_eq_true rfl) ⟨by decide, by decide⟩ ⟨Nat.zero_le _, Nat.zero_le _⟩ dX10_ringsOnTape_29 ?_
    refine r_aload_n dX10_ringsOnTape_32 0 rfl ?_
    obtain ⟨x33, e33, h⟩ := Sat_bind h
    refine r_getP fk_X10_21 rfl e33 dX10_ringsOnTape_33 ?_
    obtain ⟨x36, e36, h⟩ := Sat_bind h
    refine r_getI fk_X10_254 rfl e36 dX10_ringsOnTape_36 ?_
    refine r_if_ne 48 dX10_ringsOnTape_39 (by decide) (fun c39 => ?_) (fun c39 => ?_)
    · have h := Sat_neg c39 h
      refine r_aload_n dX10_ringsOnTape_48 0 rfl ?_
      obtain ⟨x49, e49, h⟩ := Sat_bind h
      refine r_getP fk_X10_21 rfl e49 dX10_ringsOnTape_49 ?_
      obtain ⟨x52, e52, h⟩ := Sat_bind h
      refine r_getI fk_X10_254 rfl e52 dX10_ringsOnTape_52 ?_
      refine r_iconst (v := 2) dX10_ringsOnTape_55 (by decide) ?_
      refine r_icmp_ne 74 dX10_ringsOnTape_56 (by decide) (fun c56 => ?_) (fun c56 => ?_)
      · have h := Sat_neg c56 h
        exact r_sub [0, 1, 2] rfl (J74 s19.1 s19.2.1 x29 h)
      · have h := Sat_pos c56 h
        refine r_aload_n dX10_ringsOnTape_59 0 rfl ?_
        obtain ⟨x60, e60, h⟩ := Sat_bind h
        refine r_getP fk_X10_21 rfl e60 dX10_ringsOnTape_60 ?_
        obtain ⟨x63, e63, h⟩ := Sat_bind h
        refine r_getI fk_X10_264 rfl e63 dX10_ringsOnTape_63 ?_
        refine r_iconst (v := 2) dX10_ringsOnTape_66 (by decide) ?_
        refine r_icmp_lt 74 dX10_ringsOnTape_67 (by decide) (fun c67 => ?_) (fun c67 => ?_)
        · have h := Sat_pos c67 h
          exact r_sub [0, 1, 2] rfl (J74 s19.1 s19.2.1 x29 h)
        · have h := Sat_neg c67 h
          refine r_iconst (v := 1) dX10_ringsOnTape_70 (by decide) ?_
          refine r_goto 75 dX10_ringsOnTape_71 (by decide) ?_
          exact r_sub [0, 1, 2] rfl (J75 s19.1 s19.2.1 (1 : Int32) x29 h)
    · have h := Sat_pos c39 h
      have h := hX19 _ (Sat_some h)
      exact r_sub [0, 1] rfl (J42 a0 s19.1 x29 h)
theorem dX10_rings_0 : decode cX10_rings 0 = .ok (.aload_n 0, 1) := by decide +kernel
theorem dX10_rings_1 : decode cX10_rings 1 = .ok (.invokevirtual 399, 3) := by decide +kernel
theorem dX10_rings_4 : decode cX10_rings 4 = .ok (.lstore_n 1, 1) := by decide +kernel
theorem dX10_rings_5 : decode cX10_rings 5 = .ok (.aload_n 0, 1) := by decide +kernel
theorem dX10_rings_6 : decode cX10_rings 6 = .ok (.getfield 10, 3) := by decide +kernel
theorem dX10_rings_9 : decode cX10_rings 9 = .ok (.iconst 0, 1) := by decide +kernel
theorem dX10_rings_10 : decode cX10_rings 10 = .ok (.putfield 137, 3) := by decide +kernel
theorem dX10_rings_13 : decode cX10_rings 13 = .ok (.lload_n 1, 1) := by decide +kernel
theorem dX10_rings_14 : decode cX10_rings 14 = .ok (.lreturn, 1) := by decide +kernel
noncomputable def f_X10_rings (a0 : Nat) (μ : Mm) : Option (Int64 × Mm) :=
  if (mm_K μ a0).1 = 11 then (f_X10_ringsOnTape a0 μ).bind fun x1 => (gf_P 11 0 a0 x1.2).bind fun x6 => (pf_I 6 1 x6 (0 : Int32) x1.2).bind fun μ10 => some (x1.1, μ10) else none
abbrev Rn_X10_rings (G : Gv) (Q : Option Value → Mm → Prop) (pc : Nat) (lv : List (Nat × Value)) (st : List Value) (μ : Mm) : Prop := Rn G RX10 cX10_rings 3 (some .long) "rings" (rmd 4 0 0) (Zm G 0 0 Q) 0 0 pc lv st μ
set_option maxRecDepth 100000 in
set_option maxHeartbeats 4000000 in
theorem m_X10_rings {G : Gv} (a0 : Nat) (μ : Mm) {r : (Int64 × Mm)} (hx : f_X10_rings a0 μ = some r) : Mt G yX10_rings cX10_rings 3 (some .long) 4 0 0 [.ref a0] μ (fun v μ' => v = some (.long r.1) ∧ μ' = r.2) := by
  refine Mt.of (by decide) (Nat.le_of_ble_eq_true rfl) ?_
  show Rn_X10_rings G (fun v μ' => v = some (.long r.1) ∧ μ' = r.2) 0 [(0, .ref a0)] [] μ
  obtain ⟨_, h⟩ := Sat_ifp (show Sat (f_X10_rings a0 μ) (fun x => x = r) from ⟨_, hx, rfl⟩)
  refine r_aload_n dX10_rings_0 0 rfl ?_
  obtain ⟨x1, e1, h⟩ := Sat_bind h
  refine r_cV (t := 11) [] [] (m_X10_ringsOnTape a0 μ e1) ck_X10_ringsOnTape lk_X10_399 in_X10_ringsOnTape se_X10_ringsOnTape (kd_of e1) ⟨rfl, by decide, by decide⟩ rfl rfl (Nat.le_of_ble_eq_true rfl) ⟨by decide, by decide⟩ ⟨Nat.zero_le _, Nat.zero_le _⟩ dX10_rings_1 ?_
  refine r_lstore_n (lv' := [(1, .long x1.1), (0, .ref a0)]) dX10_rings_4 rfl (by decide) rfl ?_
  refine r_aload_n dX10_rings_5 1 rfl ?_
  obtain ⟨x6, e6, h⟩ := Sat_bind h
  refine r_getP fk_X10_10 rfl e6 dX10_rings_6 ?_
  refine r_iconst (v := 0) dX10_rings_9 (by decide) ?_
  obtain ⟨μ10, e10, h⟩ := Sat_bind h
  refine r_putI fk_X10_137 rfl rfl e10 dX10_rings_10 ?_
  refine r_lload_n dX10_rings_13 0 rfl ?_
  exact r_lreturn rfl (by rw [← Sat_eq h]; exact ⟨rfl, rfl⟩) dX10_rings_14
theorem dX10_said_0 : decode cX10_said 0 = .ok (.aload_n 0, 1) := by decide +kernel
theorem dX10_said_1 : decode cX10_said 1 = .ok (.getfield 63, 3) := by decide +kernel
theorem dX10_said_4 : decode cX10_said 4 = .ok (.iload_n 1, 1) := by decide +kernel
theorem dX10_said_5 : decode cX10_said 5 = .ok (.invokevirtual 178, 3) := by decide +kernel
theorem dX10_said_8 : decode cX10_said 8 = .ok (.ifCond .eq 21, 3) := by decide +kernel
theorem dX10_said_11 : decode cX10_said 11 = .ok (.aload_n 0, 1) := by decide +kernel
theorem dX10_said_12 : decode cX10_said 12 = .ok (.getfield 63, 3) := by decide +kernel
theorem dX10_said_15 : decode cX10_said 15 = .ok (.iload_n 2, 1) := by decide +kernel
theorem dX10_said_16 : decode cX10_said 16 = .ok (.invokevirtual 178, 3) := by decide +kernel
theorem dX10_said_19 : decode cX10_said 19 = .ok (.ifCond .eq 10, 3) := by decide +kernel
theorem dX10_said_22 : decode cX10_said 22 = .ok (.iload_n 3, 1) := by decide +kernel
theorem dX10_said_23 : decode cX10_said 23 = .ok (.invokestatic 214, 3) := by decide +kernel
theorem dX10_said_26 : decode cX10_said 26 = .ok (.ifCond .ne 6, 3) := by decide +kernel
theorem dX10_said_29 : decode cX10_said 29 = .ok (.bipush (-2), 2) := by decide +kernel
theorem dX10_said_31 : decode cX10_said 31 = .ok (.ireturn, 1) := by decide +kernel
theorem dX10_said_32 : decode cX10_said 32 = .ok (.iload_n 1, 1) := by decide +kernel
theorem dX10_said_33 : decode cX10_said 33 = .ok (.iload_n 2, 1) := by decide +kernel
theorem dX10_said_34 : decode cX10_said 34 = .ok (.if_icmp .ne 8, 3) := by decide +kernel
theorem dX10_said_37 : decode cX10_said 37 = .ok (.bipush (-4), 2) := by decide +kernel
theorem dX10_said_39 : decode cX10_said 39 = .ok (.goto 10, 3) := by decide +kernel
theorem dX10_said_42 : decode cX10_said 42 = .ok (.aload_n 0, 1) := by decide +kernel
theorem dX10_said_43 : decode cX10_said 43 = .ok (.iload_n 1, 1) := by decide +kernel
theorem dX10_said_44 : decode cX10_said 44 = .ok (.iload_n 2, 1) := by decide +kernel
theorem dX10_said_45 : decode cX10_said 45 = .ok (.iload_n 3, 1) := by decide +kernel
theorem dX10_said_46 : decode cX10_said 46 = .ok (.invokevirtual 338, 3) := by decide +kernel
theorem dX10_said_49 : decode cX10_said 49 = .ok (.ireturn, 1) := by decide +kernel
noncomputable def f_X10_said (a0 : Nat) (l1 : Int32) (l2 : Int32) (l3 : Int32) (μ : Mm) : Option (Int32 × Mm) :=
  if (mm_K μ a0).1 = 11 then (gf_P 11 13 a0 μ).bind fun x1 => (f_X7_isPerson x1 l1 μ).bind fun x5 => if x5 = 0 then some ((-2 : Int32), μ) else (gf_P 11 13 a0 μ).bind fun x12 => (f_X7_isPerson x12 l2 μ).bind fun x16 => if x16 = 0 then some ((-2 : Int32), μ) else (f_X10_isDay l3 μ).bind fun x23 => if x23 = 0 then some ((-2 : Int32), μ) else if l1 = l2 then some ((-4 : Int32), μ) else (f_X10_sendSign a0 l1 l2 l3 μ).bind fun x46 => some (x46.1, x46.2) else none
abbrev Rn_X10_said (G : Gv) (Q : Option Value → Mm → Prop) (pc : Nat) (lv : List (Nat × Value)) (st : List Value) (μ : Mm) : Prop := Rn G RX10 cX10_said 4 (some .int) "said" (rmd 4 0 0) (Zm G 0 0 Q) 0 0 pc lv st μ
set_option maxRecDepth 100000 in
set_option maxHeartbeats 4000000 in
theorem m_X10_said {G : Gv} (a0 : Nat) (l1 : Int32) (l2 : Int32) (l3 : Int32) (μ : Mm) {r : (Int32 × Mm)} (hx : f_X10_said a0 l1 l2 l3 μ = some r) : Mt G yX10_said cX10_said 4 (some .int) 4 0 0 [.ref a0, .int l1, .int l2, .int l3] μ (fun v μ' => v = some (.int r.1) ∧ μ' = r.2) := by
  refine Mt.of (by decide) (Nat.le_of_ble_eq_true rfl) ?_
  show Rn_X10_said G (fun v μ' => v = some (.int r.1) ∧ μ' = r.2) 0 [(0, .ref a0), (1, .int l1), (2, .int l2), (3, .int l3)] [] μ
  obtain ⟨_, h⟩ := Sat_ifp (show Sat (f_X10_said a0 l1 l2 l3 μ) (fun x => x = r) from ⟨_, hx, rfl⟩)
  refine r_aload_n dX10_said_0 0 rfl ?_
  obtain ⟨x1, e1, h⟩ := Sat_bind h
  refine r_getP fk_X10_63 rfl e1 dX10_said_1 ?_
  refine r_iload_n dX10_said_4 1 rfl ?_
  obtain ⟨x5, e5, h⟩ := Sat_bind h
  refine r_cV (t := 8) [.int l1] [] (m_X7_isPerson x1 l1 μ e5) ck_X7_isPerson lk_X10_178 in_X7_isPerson se_X7_isPerson (kd_of e5) ⟨rfl, by decide, by decide⟩ rfl rfl (Nat.le_of_ble_eq_true rfl) ⟨by decide, by decide⟩ ⟨Nat.zero_le _, Nat.zero_le _⟩ dX10_said_5 ?_
  refine r_if_eq 29 dX10_said_8 (by decide) (fun c8 => ?_) (fun c8 => ?_)
  · have h := Sat_pos c8 h
    refine r_bipush (v := -2) dX10_said_29 (by decide) ?_
    exact r_ireturn rfl (by rw [← Sat_eq h]; exact ⟨rfl, rfl⟩) dX10_said_31
  · have h := Sat_neg c8 h
    refine r_aload_n dX10_said_11 0 rfl ?_
    obtain ⟨x12, e12, h⟩ := Sat_bind h
    refine r_getP fk_X10_63 rfl e12 dX10_said_12 ?_
    refine r_iload_n dX10_said_15 2 rfl ?_
    obtain ⟨x16, e16, h⟩ := Sat_bind h
    refine r_cV (t := 8) [.int l2] [] (m_X7_isPerson x12 l2 μ e16) ck_X7_isPerson lk_X10_178 in_X7_isPerson se_X7_isPerson (kd_of e16) ⟨rfl, by decide, by decide⟩ rfl rfl (Nat.le_of_ble_eq_true rfl) ⟨by decide, by decide⟩ ⟨Nat.zero_le _, Nat.zero_le _⟩ dX10_said_16 ?_
    refine r_if_eq 29 dX10_said_19 (by decide) (fun c19 => ?_) (fun c19 => ?_)
    · have h := Sat_pos c19 h
      refine r_bipush (v := -2) dX10_said_29 (by decide) ?_
      exact r_ireturn rfl (by rw [← Sat_eq h]; exact ⟨rfl, rfl⟩) dX10_said_31
    · have h := Sat_neg c19 h
      refine r_iload_n dX10_said_22 3 rfl ?_
      obtain ⟨x23, e23, h⟩ := Sat_bind h
      refine r_cS [.int l3] [] (m_X10_isDay l3 μ e23) ck_X10_isDay lk_X10_214 st_X10_isDay rfl rfl (Nat.le_of_ble_eq_true rfl) ⟨by decide, by decide⟩ ⟨Nat.zero_le _, Nat.zero_le _⟩ dX10_said_23 ?_
      refine r_if_ne 32 dX10_said_26 (by decide) (fun c26 => ?_) (fun c26 => ?_)
      · have h := Sat_neg c26 h
        refine r_iload_n dX10_said_32 1 rfl ?_
        refine r_iload_n dX10_said_33 2 rfl ?_
        refine r_icmp_ne 42 dX10_said_34 (by decide) (fun c34 => ?_) (fun c34 => ?_)
        · have h := Sat_neg c34 h
          refine r_aload_n dX10_said_42 0 rfl ?_
          refine r_iload_n dX10_said_43 1 rfl ?_
          refine r_iload_n dX10_said_44 2 rfl ?_
          refine r_iload_n dX10_said_45 3 rfl ?_
          obtain ⟨x46, e46, h⟩ := Sat_bind h
          refine r_cV (t := 11) [.int l1, .int l2, .int l3] [] (m_X10_sendSign a0 l1 l2 l3 μ e46) ck_X10_sendSign lk_X10_338 in_X10_sendSign se_X10_sendSign (kd_of e46) ⟨rfl, by decide, by decide⟩ rfl rfl (Nat.le_of_ble_eq_true rfl) ⟨by decide, by decide⟩ ⟨Nat.zero_le _, Nat.zero_le _⟩ dX10_said_46 ?_
          exact r_ireturn rfl (by rw [← Sat_eq h]; exact ⟨rfl, rfl⟩) dX10_said_49
        · have h := Sat_pos c34 h
          refine r_bipush (v := -4) dX10_said_37 (by decide) ?_
          refine r_goto 49 dX10_said_39 (by decide) ?_
          exact r_ireturn rfl (by rw [← Sat_eq h]; exact ⟨rfl, rfl⟩) dX10_said_49
      · have h := Sat_pos c26 h
        refine r_bipush (v := -2) dX10_said_29 (by decide) ?_
        exact r_ireturn rfl (by rw [← Sat_eq h]; exact ⟨rfl, rfl⟩) dX10_said_31
theorem dX10_skill_0 : decode cX10_skill 0 = .ok (.aload_n 0, 1) := by decide +kernel
theorem dX10_skill_1 : decode cX10_skill 1 = .ok (.getfield 63, 3) := by decide +kernel
theorem dX10_skill_4 : decode cX10_skill 4 = .ok (.iload_n 1, 1) := by decide +kernel
theorem dX10_skill_5 : decode cX10_skill 5 = .ok (.invokevirtual 178, 3) := by decide +kernel
theorem dX10_skill_8 : decode cX10_skill 8 = .ok (.ifCond .eq 10, 3) := by decide +kernel
theorem dX10_skill_11 : decode cX10_skill 11 = .ok (.iload_n 2, 1) := by decide +kernel
theorem dX10_skill_12 : decode cX10_skill 12 = .ok (.invokestatic 214, 3) := by decide +kernel
theorem dX10_skill_15 : decode cX10_skill 15 = .ok (.ifCond .ne 6, 3) := by decide +kernel
theorem dX10_skill_18 : decode cX10_skill 18 = .ok (.bipush (-2), 2) := by decide +kernel
theorem dX10_skill_20 : decode cX10_skill 20 = .ok (.ireturn, 1) := by decide +kernel
theorem dX10_skill_21 : decode cX10_skill 21 = .ok (.aload_n 0, 1) := by decide +kernel
theorem dX10_skill_22 : decode cX10_skill 22 = .ok (.getfield 47, 3) := by decide +kernel
theorem dX10_skill_25 : decode cX10_skill 25 = .ok (.iconst 0, 1) := by decide +kernel
theorem dX10_skill_26 : decode cX10_skill 26 = .ok (.invokestatic 350, 3) := by decide +kernel
theorem dX10_skill_29 : decode cX10_skill 29 = .ok (.iconst 0, 1) := by decide +kernel
theorem dX10_skill_30 : decode cX10_skill 30 = .ok (.istore_n 3, 1) := by decide +kernel
theorem dX10_skill_31 : decode cX10_skill 31 = .ok (.iload_n 3, 1) := by decide +kernel
theorem dX10_skill_32 : decode cX10_skill 32 = .ok (.iload_n 2, 1) := by decide +kernel
theorem dX10_skill_33 : decode cX10_skill 33 = .ok (.if_icmp .gt 20, 3) := by decide +kernel
theorem dX10_skill_36 : decode cX10_skill 36 = .ok (.iload_n 3, 1) := by decide +kernel
theorem dX10_skill_37 : decode cX10_skill 37 = .ok (.bipush 28, 2) := by decide +kernel
theorem dX10_skill_39 : decode cX10_skill 39 = .ok (.if_icmp .ge 14, 3) := by decide +kernel
theorem dX10_skill_42 : decode cX10_skill 42 = .ok (.aload_n 0, 1) := by decide +kernel
theorem dX10_skill_43 : decode cX10_skill 43 = .ok (.iload_n 3, 1) := by decide +kernel
theorem dX10_skill_44 : decode cX10_skill 44 = .ok (.invokevirtual 356, 3) := by decide +kernel
theorem dX10_skill_47 : decode cX10_skill 47 = .ok (.iinc 3 1, 3) := by decide +kernel
theorem dX10_skill_50 : decode cX10_skill 50 = .ok (.goto (-19), 3) := by decide +kernel
theorem dX10_skill_53 : decode cX10_skill 53 = .ok (.aload_n 0, 1) := by decide +kernel
theorem dX10_skill_54 : decode cX10_skill 54 = .ok (.getfield 47, 3) := by decide +kernel
theorem dX10_skill_57 : decode cX10_skill 57 = .ok (.iload_n 1, 1) := by decide +kernel
theorem dX10_skill_58 : decode cX10_skill 58 = .ok (.iaload, 1) := by decide +kernel
theorem dX10_skill_59 : decode cX10_skill 59 = .ok (.ireturn, 1) := by decide +kernel
noncomputable def f_X10_skill_J53 (a0 : Nat) (l1 : Int32) (μ : Mm) : Option (Int32 × Mm) :=
  (gf_P 11 9 a0 μ).bind fun x54 => (ga_I x54 l1 μ).bind fun x58 => some (x58, μ)
noncomputable def f_X10_skill_L31 (a0 : Nat) (l1 : Int32) (l2 : Int32) (s31 : Int32 × Mm) : Option ((Int32 × Mm) ⊕ (Mm)) :=
  if l2 < s31.1 then some (.inr s31.2) else if (28 : Int32) ≤ s31.1 then some (.inr s31.2) else (f_X10_practise a0 s31.1 s31.2).bind fun x44 => (some (s31.1 + (1 : Int32))).bind fun v47 => some (.inl (v47, x44))
noncomputable def f_X10_skill (a0 : Nat) (l1 : Int32) (l2 : Int32) (μ : Mm) : Option (Int32 × Mm) :=
  if (mm_K μ a0).1 = 11 then (gf_P 11 13 a0 μ).bind fun x1 => (f_X7_isPerson x1 l1 μ).bind fun x5 => if x5 = 0 then some ((-2 : Int32), μ) else (f_X10_isDay l2 μ).bind fun x12 => if x12 = 0 then some ((-2 : Int32), μ) else (gf_P 11 9 a0 μ).bind fun x22 => (f_J7_fill_53178 x22 (0 : Int32) μ).bind fun x26 => (whl (f_X10_skill_L31 a0 l1 l2) ((0 : Int32), x26)).bind (fun b31 => f_X10_skill_J53 a0 l1 b31) else none
abbrev Rn_X10_skill (G : Gv) (Q : Option Value → Mm → Prop) (pc : Nat) (lv : List (Nat × Value)) (st : List Value) (μ : Mm) : Prop := Rn G RX10 cX10_skill 4 (some .int) "skill" (rmd 3 0 0) (Zm G 0 0 Q) 0 0 pc lv st μ
set_option maxRecDepth 100000 in
set_option maxHeartbeats 4000000 in
theorem m_X10_skill {G : Gv} (a0 : Nat) (l1 : Int32) (l2 : Int32) (μ : Mm) {r : (Int32 × Mm)} (hx : f_X10_skill a0 l1 l2 μ = some r) : Mt G yX10_skill cX10_skill 4 (some .int) 3 0 0 [.ref a0, .int l1, .int l2] μ (fun v μ' => v = some (.int r.1) ∧ μ' = r.2) := by
  refine Mt.of (by decide) (Nat.le_of_ble_eq_true rfl) ?_
  show Rn_X10_skill G (fun v μ' => v = some (.int r.1) ∧ μ' = r.2) 0 [(0, .ref a0), (1, .int l1), (2, .int l2)] [] μ
  obtain ⟨_, h⟩ := Sat_ifp (show Sat (f_X10_skill a0 l1 l2 μ) (fun x => x = r) from ⟨_, hx, rfl⟩)
  have J53 : ∀ (a0_53 : Nat) (l1_53 : Int32) (μ_53 : Mm), Sat (f_X10_skill_J53 a0_53 l1_53 μ_53) (fun x => x = r) → Rn_X10_skill G (fun v μ' => v = some (.int r.1) ∧ μ' = r.2) 53 [(0, .ref a0_53), (1, .int l1_53)] [] μ_53 := by
    intro a0_53 l1_53 μ_53 h
    refine r_aload_n dX10_skill_53 0 rfl ?_
    obtain ⟨x54, e54, h⟩ := Sat_bind h
    refine r_getP fk_X10_47 rfl e54 dX10_skill_54 ?_
    refine r_iload_n dX10_skill_57 1 rfl ?_
    obtain ⟨x58, e58, h⟩ := Sat_bind h
    refine r_iaload e58 dX10_skill_58 ?_
    exact r_ireturn rfl (by rw [← Sat_eq h]; exact ⟨rfl, rfl⟩) dX10_skill_59
  refine r_aload_n dX10_skill_0 0 rfl ?_
  obtain ⟨x1, e1, h⟩ := Sat_bind h
  refine r_getP fk_X10_63 rfl e1 dX10_skill_1 ?_
  refine r_iload_n dX10_skill_4 1 rfl ?_
  obtain ⟨x5, e5, h⟩ := Sat_bind h
  refine r_cV (t := 8) [.int l1] [] (m_X7_isPerson x1 l1 μ e5) ck_X7_isPerson lk_X10_178 in_X7_isPerson se_X7_isPerson (kd_of e5) ⟨rfl, by decide, by decide⟩ rfl rfl (Nat.le_of_ble_eq_true rfl) ⟨by decide, by decide⟩ ⟨Nat.zero_le _, Nat.zero_le _⟩ dX10_skill_5 ?_
  refine r_if_eq 18 dX10_skill_8 (by decide) (fun c8 => ?_) (fun c8 => ?_)
  · have h := Sat_pos c8 h
    refine r_bipush (v := -2) dX10_skill_18 (by decide) ?_
    exact r_ireturn rfl (by rw [← Sat_eq h]; exact ⟨rfl, rfl⟩) dX10_skill_20
  · have h := Sat_neg c8 h
    refine r_iload_n dX10_skill_11 2 rfl ?_
    obtain ⟨x12, e12, h⟩ := Sat_bind h
    refine r_cS [.int l2] [] (m_X10_isDay l2 μ e12) ck_X10_isDay lk_X10_214 st_X10_isDay rfl rfl (Nat.le_of_ble_eq_true rfl) ⟨by decide, by decide⟩ ⟨Nat.zero_le _, Nat.zero_le _⟩ dX10_skill_12 ?_
    refine r_if_ne 21 dX10_skill_15 (by decide) (fun c15 => ?_) (fun c15 => ?_)
    · have h := Sat_neg c15 h
      refine r_aload_n dX10_skill_21 0 rfl ?_
      obtain ⟨x22, e22, h⟩ := Sat_bind h
      refine r_getP fk_X10_47 rfl e22 dX10_skill_22 ?_
      refine r_iconst (v := 0) dX10_skill_25 (by decide) ?_
      obtain ⟨x26, e26, h⟩ := Sat_bind h
      refine r_cS [.ref x22, .int (0 : Int32)] [] (m_J7_fill_53178 x22 (0 : Int32) μ e26) ck_J7_fill_53178 lk_X10_350 st_J7_fill_53178 rfl rfl (Nat.le_of_ble_eq_true rfl) ⟨by decide, by decide⟩ ⟨Nat.zero_le _, Nat.zero_le _⟩ dX10_skill_26 ?_
      refine r_iconst (v := 0) dX10_skill_29 (by decide) ?_
      refine r_istore_n (lv' := [(3, .int (0 : Int32)), (0, .ref a0), (1, .int l1), (2, .int l2)]) dX10_skill_30 rfl (by decide) rfl ?_
      refine r_sub (lv' := [(0, .ref a0), (1, .int l1), (2, .int l2), (3, .int (0 : Int32))]) [1, 2, 3, 0] rfl ?_
      refine whl_K (s0 := (((0 : Int32), x26) : Int32 × Mm)) (RR := fun (s31 : Int32 × Mm) => Rn_X10_skill G (fun v μ' => v = some (.int r.1) ∧ μ' = r.2) 31 [(0, .ref a0), (1, .int l1), (2, .int l2), (3, .int s31.1)] [] s31.2) ?_ (Sat_bindK h)
      intro s31 K31 hI31 hX31 h
      refine r_iload_n dX10_skill_31 3 rfl ?_
      refine r_iload_n dX10_skill_32 2 rfl ?_
      refine r_icmp_gt 53 dX10_skill_33 (by decide) (fun c33 => ?_) (fun c33 => ?_)
      · have h := Sat_pos c33 h
        have h := hX31 _ (Sat_some h)
        exact r_sub [0, 1] rfl (J53 a0 l1 s31.2 h)
      · have h := Sat_neg c33 h
        refine r_iload_n dX10_skill_36 3 rfl ?_
        refine r_bipush (v := 28) dX10_skill_37 (by decide) ?_
        refine r_icmp_ge 53 dX10_skill_39 (by decide) (fun c39 => ?_) (fun c39 => ?_)
        · have h := Sat_pos c39 h
          have h := hX31 _ (Sat_some h)
          exact r_sub [0, 1] rfl (J53 a0 l1 s31.2 h)
        · have h := Sat_neg c39 h
          refine r_aload_n dX10_skill_42 0 rfl ?_
          refine r_iload_n dX10_skill_43 3 rfl ?_
          obtain ⟨x44, e44, h⟩ := Sat_bind h
          refine r_cV (t := 11) [.int s31.1] [] (m_X10_practise a0 s31.1 s31.2 e44) ck_X10_practise lk_X10_356 in_X10_practise se_X10_practise (kd_of e44) ⟨rfl, by decide, by decide⟩ rfl rfl (Nat.le_of_ble_eq_true rfl) ⟨by decide, by decide⟩ ⟨Nat.zero_le _, Nat.zero_le _⟩ dX10_skill_44 ?_
          obtain ⟨v47, e47, h⟩ := Sat_bind h
          refine r_iinc (j := 3) (v := v47) (lv' := [(3, .int v47), (0, .ref a0), (1, .int l1), (2, .int l2)]) dX10_skill_47 rfl (iinc_v e47 (by decide)) (by decide) rfl ?_
          refine r_goto 31 dX10_skill_50 (by decide) ?_
          exact r_sub [1, 2, 3, 0] rfl (hI31 _ (Sat_some h))
    · have h := Sat_pos c15 h
      refine r_bipush (v := -2) dX10_skill_18 (by decide) ?_
      exact r_ireturn rfl (by rw [← Sat_eq h]; exact ⟨rfl, rfl⟩) dX10_skill_20
theorem dX1_rowAt_0 : decode cX1_rowAt 0 = .ok (.iload_n 1, 1) := by decide +kernel
theorem dX1_rowAt_1 : decode cX1_rowAt 1 = .ok (.ifCond .lt 21, 3) := by decide +kernel
theorem dX1_rowAt_4 : decode cX1_rowAt 4 = .ok (.iload_n 1, 1) := by decide +kernel
theorem dX1_rowAt_5 : decode cX1_rowAt 5 = .ok (.aload_n 0, 1) := by decide +kernel
theorem dX1_rowAt_6 : decode cX1_rowAt 6 = .ok (.getfield 25, 3) := by decide +kernel
theorem dX1_rowAt_9 : decode cX1_rowAt 9 = .ok (.arraylength, 1) := by decide +kernel
theorem dX1_rowAt_10 : decode cX1_rowAt 10 = .ok (.if_icmp .ge 12, 3) := by decide +kernel
theorem dX1_rowAt_13 : decode cX1_rowAt 13 = .ok (.aload_n 0, 1) := by decide +kernel
theorem dX1_rowAt_14 : decode cX1_rowAt 14 = .ok (.getfield 25, 3) := by decide +kernel
theorem dX1_rowAt_17 : decode cX1_rowAt 17 = .ok (.iload_n 1, 1) := by decide +kernel
theorem dX1_rowAt_18 : decode cX1_rowAt 18 = .ok (.iaload, 1) := by decide +kernel
theorem dX1_rowAt_19 : decode cX1_rowAt 19 = .ok (.goto 4, 3) := by decide +kernel
theorem dX1_rowAt_22 : decode cX1_rowAt 22 = .ok (.iconst (-1), 1) := by decide +kernel
theorem dX1_rowAt_23 : decode cX1_rowAt 23 = .ok (.ireturn, 1) := by decide +kernel
noncomputable def f_X1_rowAt_J22  (μ : Mm) : Option Int32 :=
  some (-1 : Int32)
noncomputable def f_X1_rowAt (a0 : Nat) (l1 : Int32) (μ : Mm) : Option Int32 :=
  if (mm_K μ a0).1 = 2 then if l1 < 0 then f_X1_rowAt_J22 μ else (gf_P 2 6 a0 μ).bind fun x6 => (ga_len x6 μ).bind fun x9 => if x9 ≤ l1 then f_X1_rowAt_J22 μ else (gf_P 2 6 a0 μ).bind fun x14 => (ga_I x14 l1 μ).bind fun x18 => some x18 else none
abbrev Rn_X1_rowAt (G : Gv) (Q : Option Value → Mm → Prop) (pc : Nat) (lv : List (Nat × Value)) (st : List Value) (μ : Mm) : Prop := Rn G RX1 cX1_rowAt 2 (some .int) "rowAt" (rmd 0 0 0) (Zm G 0 0 Q) 0 0 pc lv st μ
set_option maxRecDepth 100000 in
set_option maxHeartbeats 4000000 in
theorem m_X1_rowAt {G : Gv} (a0 : Nat) (l1 : Int32) (μ : Mm) {r : Int32} (hx : f_X1_rowAt a0 l1 μ = some r) : Mt G yX1_rowAt cX1_rowAt 2 (some .int) 0 0 0 [.ref a0, .int l1] μ (fun v μ' => v = some (.int r) ∧ μ' = μ) := by
  refine Mt.of (by decide) (Nat.le_of_ble_eq_true rfl) ?_
  show Rn_X1_rowAt G (fun v μ' => v = some (.int r) ∧ μ' = μ) 0 [(0, .ref a0), (1, .int l1)] [] μ
  obtain ⟨_, h⟩ := Sat_ifp (show Sat (f_X1_rowAt a0 l1 μ) (fun x => x = r) from ⟨_, hx, rfl⟩)
  have J22 : Sat (f_X1_rowAt_J22 μ) (fun x => x = r) → Rn_X1_rowAt G (fun v μ' => v = some (.int r) ∧ μ' = μ) 22 [] [] μ := by
    intro  h
    refine r_iconst (v := -1) dX1_rowAt_22 (by decide) ?_
    exact r_ireturn rfl (by rw [← Sat_eq h]; exact ⟨rfl, rfl⟩) dX1_rowAt_23
  refine r_iload_n dX1_rowAt_0 1 rfl ?_
  refine r_if_lt 22 dX1_rowAt_1 (by decide) (fun c1 => ?_) (fun c1 => ?_)
  · have h := Sat_pos c1 h
    exact r_sub [] rfl (J22  h)
  · have h := Sat_neg c1 h
    refine r_iload_n dX1_rowAt_4 1 rfl ?_
    refine r_aload_n dX1_rowAt_5 0 rfl ?_
    obtain ⟨x6, e6, h⟩ := Sat_bind h
    refine r_getP fk_X1_25 rfl e6 dX1_rowAt_6 ?_
    obtain ⟨x9, e9, h⟩ := Sat_bind h
    refine r_len e9 dX1_rowAt_9 ?_
    refine r_icmp_ge 22 dX1_rowAt_10 (by decide) (fun c10 => ?_) (fun c10 => ?_)
    · have h := Sat_pos c10 h
      exact r_sub [] rfl (J22  h)
    · have h := Sat_neg c10 h
      refine r_aload_n dX1_rowAt_13 0 rfl ?_
      obtain ⟨x14, e14, h⟩ := Sat_bind h
      refine r_getP fk_X1_25 rfl e14 dX1_rowAt_14 ?_
      refine r_iload_n dX1_rowAt_17 1 rfl ?_
      obtain ⟨x18, e18, h⟩ := Sat_bind h
      refine r_iaload e18 dX1_rowAt_18 ?_
      refine r_goto 23 dX1_rowAt_19 (by decide) ?_
      exact r_ireturn rfl (by rw [← Sat_eq h]; exact ⟨rfl, rfl⟩) dX1_rowAt_23
theorem dX1_mayDream_0 : decode cX1_mayDream 0 = .ok (.iconst 0, 1) := by decide +kernel
theorem dX1_mayDream_1 : decode cX1_mayDream 1 = .ok (.istore_n 2, 1) := by decide +kernel
theorem dX1_mayDream_2 : decode cX1_mayDream 2 = .ok (.iconst 0, 1) := by decide +kernel
theorem dX1_mayDream_3 : decode cX1_mayDream 3 = .ok (.istore_n 3, 1) := by decide +kernel
theorem dX1_mayDream_4 : decode cX1_mayDream 4 = .ok (.iload_n 3, 1) := by decide +kernel
theorem dX1_mayDream_5 : decode cX1_mayDream 5 = .ok (.aload_n 0, 1) := by decide +kernel
theorem dX1_mayDream_6 : decode cX1_mayDream 6 = .ok (.getfield 122, 3) := by decide +kernel
theorem dX1_mayDream_9 : decode cX1_mayDream 9 = .ok (.if_icmp .ge 47, 3) := by decide +kernel
theorem dX1_mayDream_12 : decode cX1_mayDream 12 = .ok (.iload_n 3, 1) := by decide +kernel
theorem dX1_mayDream_13 : decode cX1_mayDream 13 = .ok (.aload_n 0, 1) := by decide +kernel
theorem dX1_mayDream_14 : decode cX1_mayDream 14 = .ok (.getfield 28, 3) := by decide +kernel
theorem dX1_mayDream_17 : decode cX1_mayDream 17 = .ok (.arraylength, 1) := by decide +kernel
theorem dX1_mayDream_18 : decode cX1_mayDream 18 = .ok (.if_icmp .ge 38, 3) := by decide +kernel
theorem dX1_mayDream_21 : decode cX1_mayDream 21 = .ok (.aload_n 0, 1) := by decide +kernel
theorem dX1_mayDream_22 : decode cX1_mayDream 22 = .ok (.aload_n 0, 1) := by decide +kernel
theorem dX1_mayDream_23 : decode cX1_mayDream 23 = .ok (.getfield 28, 3) := by decide +kernel
theorem dX1_mayDream_26 : decode cX1_mayDream 26 = .ok (.iload_n 3, 1) := by decide +kernel
theorem dX1_mayDream_27 : decode cX1_mayDream 27 = .ok (.iaload, 1) := by decide +kernel
theorem dX1_mayDream_28 : decode cX1_mayDream 28 = .ok (.invokevirtual 143, 3) := by decide +kernel
theorem dX1_mayDream_31 : decode cX1_mayDream 31 = .ok (.iload_n 1, 1) := by decide +kernel
theorem dX1_mayDream_32 : decode cX1_mayDream 32 = .ok (.invokestatic 146, 3) := by decide +kernel
theorem dX1_mayDream_35 : decode cX1_mayDream 35 = .ok (.istore 4, 2) := by decide +kernel
theorem dX1_mayDream_37 : decode cX1_mayDream 37 = .ok (.iload 4, 2) := by decide +kernel
theorem dX1_mayDream_39 : decode cX1_mayDream 39 = .ok (.iconst (-1), 1) := by decide +kernel
theorem dX1_mayDream_40 : decode cX1_mayDream 40 = .ok (.if_icmp .eq 10, 3) := by decide +kernel
theorem dX1_mayDream_43 : decode cX1_mayDream 43 = .ok (.iload_n 2, 1) := by decide +kernel
theorem dX1_mayDream_44 : decode cX1_mayDream 44 = .ok (.iconst 1, 1) := by decide +kernel
theorem dX1_mayDream_45 : decode cX1_mayDream 45 = .ok (.iload 4, 2) := by decide +kernel
theorem dX1_mayDream_47 : decode cX1_mayDream 47 = .ok (.ishl, 1) := by decide +kernel
theorem dX1_mayDream_48 : decode cX1_mayDream 48 = .ok (.ior, 1) := by decide +kernel
theorem dX1_mayDream_49 : decode cX1_mayDream 49 = .ok (.istore_n 2, 1) := by decide +kernel
theorem dX1_mayDream_50 : decode cX1_mayDream 50 = .ok (.iinc 3 1, 3) := by decide +kernel
theorem dX1_mayDream_53 : decode cX1_mayDream 53 = .ok (.goto (-49), 3) := by decide +kernel
theorem dX1_mayDream_56 : decode cX1_mayDream 56 = .ok (.iload_n 2, 1) := by decide +kernel
theorem dX1_mayDream_57 : decode cX1_mayDream 57 = .ok (.ireturn, 1) := by decide +kernel
noncomputable def f_X1_mayDream_J50 (a0 : Nat) (l1 : Int32) (l2 : Int32) (l3 : Int32) (μ : Mm) : Option ((Int32 × Int32) ⊕ (Int32)) :=
  (some (l3 + (1 : Int32))).bind fun v50 => some (.inl (l2, v50))
noncomputable def f_X1_mayDream_L4 (a0 : Nat) (l1 : Int32) (μ : Mm) (s4 : Int32 × Int32) : Option ((Int32 × Int32) ⊕ (Int32)) :=
  (gf_I 2 8 a0 μ).bind fun x6 => if x6 ≤ s4.2 then some (.inr s4.1) else (gf_P 2 7 a0 μ).bind fun x14 => (ga_len x14 μ).bind fun x17 => if x17 ≤ s4.2 then some (.inr s4.1) else (gf_P 2 7 a0 μ).bind fun x23 => (ga_I x23 s4.2 μ).bind fun x27 => (f_X1_rowAt a0 x27 μ).bind fun x28 => (f_X9_dreamOf x28 l1 μ).bind fun x32 => if x32 = (-1 : Int32) then f_X1_mayDream_J50 a0 l1 s4.1 s4.2 μ else (some (s4.1 ||| ((1 : Int32) <<< (x32 &&& 31)))).bind fun v49 => f_X1_mayDream_J50 a0 l1 v49 s4.2 μ
noncomputable def f_X1_mayDream (a0 : Nat) (l1 : Int32) (μ : Mm) : Option Int32 :=
  if (mm_K μ a0).1 = 2 then (whl (f_X1_mayDream_L4 a0 l1 μ) ((0 : Int32), (0 : Int32))).bind (fun b4 => some b4) else none
abbrev Rn_X1_mayDream (G : Gv) (Q : Option Value → Mm → Prop) (pc : Nat) (lv : List (Nat × Value)) (st : List Value) (μ : Mm) : Prop := Rn G RX1 cX1_mayDream 5 (some .int) "mayDream" (rmd 1 0 0) (Zm G 0 0 Q) 0 0 pc lv st μ
set_option maxRecDepth 100000 in
set_option maxHeartbeats 4000000 in
theorem m_X1_mayDream {G : Gv} (a0 : Nat) (l1 : Int32) (μ : Mm) {r : Int32} (hx : f_X1_mayDream a0 l1 μ = some r) : Mt G yX1_mayDream cX1_mayDream 5 (some .int) 1 0 0 [.ref a0, .int l1] μ (fun v μ' => v = some (.int r) ∧ μ' = μ) := by
  refine Mt.of (by decide) (Nat.le_of_ble_eq_true rfl) ?_
  show Rn_X1_mayDream G (fun v μ' => v = some (.int r) ∧ μ' = μ) 0 [(0, .ref a0), (1, .int l1)] [] μ
  obtain ⟨_, h⟩ := Sat_ifp (show Sat (f_X1_mayDream a0 l1 μ) (fun x => x = r) from ⟨_, hx, rfl⟩)
  refine r_iconst (v := 0) dX1_mayDream_0 (by decide) ?_
  refine r_istore_n (lv' := [(2, .int (0 : Int32)), (0, .ref a0), (1, .int l1)]) dX1_mayDream_1 rfl (by decide) rfl ?_
  refine r_iconst (v := 0) dX1_mayDream_2 (by decide) ?_
  refine r_istore_n (lv' := [(3, .int (0 : Int32)), (2, .int (0 : Int32)), (0, .ref a0), (1, .int l1)]) dX1_mayDream_3 rfl (by decide) rfl ?_
  refine r_sub (lv' := [(0, .ref a0), (1, .int l1), (2, .int (0 : Int32)), (3, .int (0 : Int32))]) [2, 3, 1, 0] rfl ?_
  refine whl_K (s0 := (((0 : Int32), (0 : Int32)) : Int32 × Int32)) (RR := fun (s4 : Int32 × Int32) => Rn_X1_mayDream G (fun v μ' => v = some (.int r) ∧ μ' = μ) 4 [(0, .ref a0), (1, .int l1), (2, .int s4.1), (3, .int s4.2)] [] μ) ?_ (Sat_bindK h)
  intro s4 K4 hI4 hX4 h
  have J50 : ∀ (l2_50 : Int32) (l3_50 : Int32), Sat (f_X1_mayDream_J50 a0 l1 l2_50 l3_50 μ) K4 → Rn_X1_mayDream G (fun v μ' => v = some (.int r) ∧ μ' = μ) 50 [(0, .ref a0), (1, .int l1), (2, .int l2_50), (3, .int l3_50)] [] μ := by
    intro l2_50 l3_50 h
    obtain ⟨v50, e50, h⟩ := Sat_bind h
    refine r_iinc (j := 3) (v := v50) (lv' := [(3, .int v50), (0, .ref a0), (1, .int l1), (2, .int l2_50)]) dX1_mayDream_50 rfl (iinc_v e50 (by decide)) (by decide) rfl ?_
    refine r_goto 4 dX1_mayDream_53 (by decide) ?_
    exact r_sub [1, 2, 3, 0] rfl (hI4 _ (Sat_some h))
  refine r_iload_n dX1_mayDream_4 3 rfl ?_
  refine r_aload_n dX1_mayDream_5 0 rfl ?_
  obtain ⟨x6, e6, h⟩ := Sat_bind h
  refine r_getI fk_X1_122 rfl e6 dX1_mayDream_6 ?_
  refine r_icmp_ge 56 dX1_mayDream_9 (by decide) (fun c9 => ?_) (fun c9 => ?_)
  · have h := Sat_pos c9 h
    have h := hX4 _ (Sat_some h)
    refine r_iload_n dX1_mayDream_56 2 rfl ?_
    exact r_ireturn rfl (by rw [← Sat_eq h]; exact ⟨rfl, rfl⟩) dX1_mayDream_57
  · have h := Sat_neg c9 h
    refine r_iload_n dX1_mayDream_12 3 rfl ?_
    refine r_aload_n dX1_mayDream_13 0 rfl ?_
    obtain ⟨x14, e14, h⟩ := Sat_bind h
    refine r_getP fk_X1_28 rfl e14 dX1_mayDream_14 ?_
    obtain ⟨x17, e17, h⟩ := Sat_bind h
    refine r_len e17 dX1_mayDream_17 ?_
    refine r_icmp_ge 56 dX1_mayDream_18 (by decide) (fun c18 => ?_) (fun c18 => ?_)
    · have h := Sat_pos c18 h
      have h := hX4 _ (Sat_some h)
      refine r_iload_n dX1_mayDream_56 2 rfl ?_
      exact r_ireturn rfl (by rw [← Sat_eq h]; exact ⟨rfl, rfl⟩) dX1_mayDream_57
    · have h := Sat_neg c18 h
      refine r_aload_n dX1_mayDream_21 0 rfl ?_
      refine r_aload_n dX1_mayDream_22 0 rfl ?_
      obtain ⟨x23, e23, h⟩ := Sat_bind h
      refine r_getP fk_X1_28 rfl e23 dX1_mayDream_23 ?_
      refine r_iload_n dX1_mayDream_26 3 rfl ?_
      obtain ⟨x27, e27, h⟩ := Sat_bind h
      refine r_iaload e27 dX1_mayDream_27 ?_
      obtain ⟨x28, e28, h⟩ := Sat_bind h
      refine r_cV (t := 2) [.int x27] [] (m_X1_rowAt a0 x27 μ e28) ck_X1_rowAt lk_X1_143 in_X1_rowAt se_X1_rowAt (kd_of e28) ⟨rfl, by decide, by decide⟩ rfl rfl (Nat.le_of_ble_eq_true rfl) ⟨by decide, by decide⟩ ⟨Nat.zero_le _, Nat.zero_le _⟩ dX1_mayDream_28 ?_
      refine r_iload_n dX1_mayDream_31 1 rfl ?_
      obtain ⟨x32, e32, h⟩ := Sat_bind h
      refine r_cS [.int x28, .int l1] [] (m_X9_dreamOf x28 l1 μ e32) ck_X9_dreamOf lk_X1_146 st_X9_dreamOf rfl rfl (Nat.le_of_ble_eq_true rfl) ⟨by decide, by decide⟩ ⟨Nat.zero_le _, Nat.zero_le _⟩ dX1_mayDream_32 ?_
      refine r_istore (lv' := [(4, .int x32), (0, .ref a0), (1, .int l1), (2, .int s4.1), (3, .int s4.2)]) dX1_mayDream_35 (by decide) rfl ?_
      refine r_iload dX1_mayDream_37 0 rfl ?_
      refine r_iconst (v := -1) dX1_mayDream_39 (by decide) ?_
      refine r_icmp_eq 50 dX1_mayDream_40 (by decide) (fun c40 => ?_) (fun c40 => ?_)
      · have h := Sat_pos c40 h
        exact r_sub [1, 2, 3, 4] rfl (J50 s4.1 s4.2 h)
      · have h := Sat_neg c40 h
        refine r_iload_n dX1_mayDream_43 3 rfl ?_
        refine r_iconst (v := 1) dX1_mayDream_44 (by decide) ?_
        refine r_iload dX1_mayDream_45 0 rfl ?_
        refine r_ishl dX1_mayDream_47 ?_
        refine r_ior dX1_mayDream_48 ?_
        obtain ⟨v49, e49, h⟩ := Sat_bind h
        refine r_topi (Option.some.inj e49) ?_
        refine r_istore_n (lv' := [(2, .int v49), (4, .int x32), (0, .ref a0), (1, .int l1), (3, .int s4.2)]) dX1_mayDream_49 rfl (by decide) rfl ?_
        exact r_sub [2, 3, 0, 4] rfl (J50 v49 s4.2 h)
theorem dX10_take_0 : decode cX10_take 0 = .ok (.iload_n 1, 1) := by decide +kernel
theorem dX10_take_1 : decode cX10_take 1 = .ok (.ifCond .lt 12, 3) := by decide +kernel
theorem dX10_take_4 : decode cX10_take 4 = .ok (.iload_n 1, 1) := by decide +kernel
theorem dX10_take_5 : decode cX10_take 5 = .ok (.aload_n 0, 1) := by decide +kernel
theorem dX10_take_6 : decode cX10_take 6 = .ok (.getfield 39, 3) := by decide +kernel
theorem dX10_take_9 : decode cX10_take 9 = .ok (.arraylength, 1) := by decide +kernel
theorem dX10_take_10 : decode cX10_take 10 = .ok (.if_icmp .lt 6, 3) := by decide +kernel
theorem dX10_take_13 : decode cX10_take 13 = .ok (.bipush (-2), 2) := by decide +kernel
theorem dX10_take_15 : decode cX10_take 15 = .ok (.ireturn, 1) := by decide +kernel
theorem dX10_take_16 : decode cX10_take 16 = .ok (.aload_n 0, 1) := by decide +kernel
theorem dX10_take_17 : decode cX10_take 17 = .ok (.getfield 39, 3) := by decide +kernel
theorem dX10_take_20 : decode cX10_take 20 = .ok (.iload_n 1, 1) := by decide +kernel
theorem dX10_take_21 : decode cX10_take 21 = .ok (.aaload, 1) := by decide +kernel
theorem dX10_take_22 : decode cX10_take 22 = .ok (.getfield 125, 3) := by decide +kernel
theorem dX10_take_25 : decode cX10_take 25 = .ok (.ifCond .ne 6, 3) := by decide +kernel
theorem dX10_take_28 : decode cX10_take 28 = .ok (.bipush (-4), 2) := by decide +kernel
theorem dX10_take_30 : decode cX10_take 30 = .ok (.ireturn, 1) := by decide +kernel
theorem dX10_take_31 : decode cX10_take 31 = .ok (.aload_n 0, 1) := by decide +kernel
theorem dX10_take_32 : decode cX10_take 32 = .ok (.getfield 35, 3) := by decide +kernel
theorem dX10_take_35 : decode cX10_take 35 = .ok (.aload_n 0, 1) := by decide +kernel
theorem dX10_take_36 : decode cX10_take 36 = .ok (.getfield 39, 3) := by decide +kernel
theorem dX10_take_39 : decode cX10_take 39 = .ok (.iload_n 1, 1) := by decide +kernel
theorem dX10_take_40 : decode cX10_take 40 = .ok (.aaload, 1) := by decide +kernel
theorem dX10_take_41 : decode cX10_take 41 = .ok (.invokevirtual 431, 3) := by decide +kernel
theorem dX10_take_44 : decode cX10_take 44 = .ok (.aload_n 0, 1) := by decide +kernel
theorem dX10_take_45 : decode cX10_take 45 = .ok (.getfield 35, 3) := by decide +kernel
theorem dX10_take_48 : decode cX10_take 48 = .ok (.getfield 422, 3) := by decide +kernel
theorem dX10_take_51 : decode cX10_take 51 = .ok (.ireturn, 1) := by decide +kernel
noncomputable def f_X10_take (a0 : Nat) (l1 : Int32) (μ : Mm) : Option (Int32 × Mm) :=
  if (mm_K μ a0).1 = 11 then if l1 < 0 then some ((-2 : Int32), μ) else (gf_P 11 7 a0 μ).bind fun x6 => (ga_len x6 μ).bind fun x9 => if l1 < x9 then (gf_P 11 7 a0 μ).bind fun x17 => (ga_P 24 x17 l1 μ).bind fun x21 => (gf_I 4 1 x21 μ).bind fun x22 => if x22 = 0 then some ((-4 : Int32), μ) else (gf_P 11 6 a0 μ).bind fun x32 => (gf_P 11 7 a0 μ).bind fun x36 => (ga_P 24 x36 l1 μ).bind fun x40 => (f_X3_copyFrom x32 x40 μ).bind fun x41 => (gf_P 11 6 a0 x41).bind fun x45 => (gf_I 4 4 x45 x41).bind fun x48 => some (x48, x41) else some ((-2 : Int32), μ) else none
abbrev Rn_X10_take (G : Gv) (Q : Option Value → Mm → Prop) (pc : Nat) (lv : List (Nat × Value)) (st : List Value) (μ : Mm) : Prop := Rn G RX10 cX10_take 2 (some .int) "take" (rmd 2 0 0) (Zm G 0 0 Q) 0 0 pc lv st μ
set_option maxRecDepth 100000 in
set_option maxHeartbeats 4000000 in
theorem m_X10_take {G : Gv} (a0 : Nat) (l1 : Int32) (μ : Mm) {r : (Int32 × Mm)} (hx : f_X10_take a0 l1 μ = some r) : Mt G yX10_take cX10_take 2 (some .int) 2 0 0 [.ref a0, .int l1] μ (fun v μ' => v = some (.int r.1) ∧ μ' = r.2) := by
  refine Mt.of (by decide) (Nat.le_of_ble_eq_true rfl) ?_
  show Rn_X10_take G (fun v μ' => v = some (.int r.1) ∧ μ' = r.2) 0 [(0, .ref a0), (1, .int l1)] [] μ
  obtain ⟨_, h⟩ := Sat_ifp (show Sat (f_X10_take a0 l1 μ) (fun x => x = r) from ⟨_, hx, rfl⟩)
  refine r_iload_n dX10_take_0 1 rfl ?_
  refine r_if_lt 13 dX10_take_1 (by decide) (fun c1 => ?_) (fun c1 => ?_)
  · have h := Sat_pos c1 h
    refine r_bipush (v := -2) dX10_take_13 (by decide) ?_
    exact r_ireturn rfl (by rw [← Sat_eq h]; exact ⟨rfl, rfl⟩) dX10_take_15
  · have h := Sat_neg c1 h
    refine r_iload_n dX10_take_4 1 rfl ?_
    refine r_aload_n dX10_take_5 0 rfl ?_
    obtain ⟨x6, e6, h⟩ := Sat_bind h
    refine r_getP fk_X10_39 rfl e6 dX10_take_6 ?_
    obtain ⟨x9, e9, h⟩ := Sat_bind h
    refine r_len e9 dX10_take_9 ?_
    refine r_icmp_lt 16 dX10_take_10 (by decide) (fun c10 => ?_) (fun c10 => ?_)
    · have h := Sat_pos c10 h
      refine r_aload_n dX10_take_16 0 rfl ?_
      obtain ⟨x17, e17, h⟩ := Sat_bind h
      refine r_getP fk_X10_39 rfl e17 dX10_take_17 ?_
      refine r_iload_n dX10_take_20 1 rfl ?_
      obtain ⟨x21, e21, h⟩ := Sat_bind h
      refine r_aaload (Or.inl rfl) e21 dX10_take_21 ?_
      obtain ⟨x22, e22, h⟩ := Sat_bind h
      refine r_getI fk_X10_125 rfl e22 dX10_take_22 ?_
      refine r_if_ne 31 dX10_take_25 (by decide) (fun c25 => ?_) (fun c25 => ?_)
      · have h := Sat_neg c25 h
        refine r_aload_n dX10_take_31 0 rfl ?_
        obtain ⟨x32, e32, h⟩ := Sat_bind h
        refine r_getP fk_X10_35 rfl e32 dX10_take_32 ?_
        refine r_aload_n dX10_take_35 0 rfl ?_
        obtain ⟨x36, e36, h⟩ := Sat_bind h
        refine r_getP fk_X10_39 rfl e36 dX10_take_36 ?_
        refine r_iload_n dX10_take_39 1 rfl ?_
        obtain ⟨x40, e40, h⟩ := Sat_bind h
        refine r_aaload (Or.inl rfl) e40 dX10_take_40 ?_
        obtain ⟨x41, e41, h⟩ := Sat_bind h
        refine r_cV (t := 4) [.ref x40] [] (m_X3_copyFrom x32 x40 μ e41) ck_X3_copyFrom lk_X10_431 in_X3_copyFrom se_X3_copyFrom (kd_of e41) ⟨rfl, by decide, by decide⟩ rfl rfl (Nat.le_of_ble_eq_true rfl) ⟨by decide, by decide⟩ ⟨Nat.zero_le _, Nat.zero_le _⟩ dX10_take_41 ?_
        refine r_aload_n dX10_take_44 0 rfl ?_
        obtain ⟨x45, e45, h⟩ := Sat_bind h
        refine r_getP fk_X10_35 rfl e45 dX10_take_45 ?_
        obtain ⟨x48, e48, h⟩ := Sat_bind h
        refine r_getI fk_X10_422 rfl e48 dX10_take_48 ?_
        exact r_ireturn rfl (by rw [← Sat_eq h]; exact ⟨rfl, rfl⟩) dX10_take_51
      · have h := Sat_pos c25 h
        refine r_bipush (v := -4) dX10_take_28 (by decide) ?_
        exact r_ireturn rfl (by rw [← Sat_eq h]; exact ⟨rfl, rfl⟩) dX10_take_30
    · have h := Sat_neg c10 h
      refine r_bipush (v := -2) dX10_take_13 (by decide) ?_
      exact r_ireturn rfl (by rw [← Sat_eq h]; exact ⟨rfl, rfl⟩) dX10_take_15
theorem dX10_toldOfOne_0 : decode cX10_toldOfOne 0 = .ok (.aload_n 0, 1) := by decide +kernel
theorem dX10_toldOfOne_1 : decode cX10_toldOfOne 1 = .ok (.getfield 63, 3) := by decide +kernel
theorem dX10_toldOfOne_4 : decode cX10_toldOfOne 4 = .ok (.iload_n 1, 1) := by decide +kernel
theorem dX10_toldOfOne_5 : decode cX10_toldOfOne 5 = .ok (.bipush 10, 2) := by decide +kernel
theorem dX10_toldOfOne_7 : decode cX10_toldOfOne 7 = .ok (.isub, 1) := by decide +kernel
theorem dX10_toldOfOne_8 : decode cX10_toldOfOne 8 = .ok (.invokevirtual 178, 3) := by decide +kernel
theorem dX10_toldOfOne_11 : decode cX10_toldOfOne 11 = .ok (.ifCond .eq 23, 3) := by decide +kernel
theorem dX10_toldOfOne_14 : decode cX10_toldOfOne 14 = .ok (.aload_n 0, 1) := by decide +kernel
theorem dX10_toldOfOne_15 : decode cX10_toldOfOne 15 = .ok (.getfield 63, 3) := by decide +kernel
theorem dX10_toldOfOne_18 : decode cX10_toldOfOne 18 = .ok (.iload_n 1, 1) := by decide +kernel
theorem dX10_toldOfOne_19 : decode cX10_toldOfOne 19 = .ok (.bipush 10, 2) := by decide +kernel
theorem dX10_toldOfOne_21 : decode cX10_toldOfOne 21 = .ok (.isub, 1) := by decide +kernel
theorem dX10_toldOfOne_22 : decode cX10_toldOfOne 22 = .ok (.invokevirtual 182, 3) := by decide +kernel
theorem dX10_toldOfOne_25 : decode cX10_toldOfOne 25 = .ok (.ifCond .eq 7, 3) := by decide +kernel
theorem dX10_toldOfOne_28 : decode cX10_toldOfOne 28 = .ok (.iconst 1, 1) := by decide +kernel
theorem dX10_toldOfOne_29 : decode cX10_toldOfOne 29 = .ok (.goto 4, 3) := by decide +kernel
theorem dX10_toldOfOne_32 : decode cX10_toldOfOne 32 = .ok (.iconst 0, 1) := by decide +kernel
theorem dX10_toldOfOne_33 : decode cX10_toldOfOne 33 = .ok (.ireturn, 1) := by decide +kernel
theorem dX10_toldOfOne_34 : decode cX10_toldOfOne 34 = .ok (.aload_n 0, 1) := by decide +kernel
theorem dX10_toldOfOne_35 : decode cX10_toldOfOne 35 = .ok (.getfield 63, 3) := by decide +kernel
theorem dX10_toldOfOne_38 : decode cX10_toldOfOne 38 = .ok (.iload_n 1, 1) := by decide +kernel
theorem dX10_toldOfOne_39 : decode cX10_toldOfOne 39 = .ok (.bipush 20, 2) := by decide +kernel
theorem dX10_toldOfOne_41 : decode cX10_toldOfOne 41 = .ok (.isub, 1) := by decide +kernel
theorem dX10_toldOfOne_42 : decode cX10_toldOfOne 42 = .ok (.invokevirtual 178, 3) := by decide +kernel
theorem dX10_toldOfOne_45 : decode cX10_toldOfOne 45 = .ok (.ifCond .eq 15, 3) := by decide +kernel
theorem dX10_toldOfOne_48 : decode cX10_toldOfOne 48 = .ok (.aload_n 0, 1) := by decide +kernel
theorem dX10_toldOfOne_49 : decode cX10_toldOfOne 49 = .ok (.getfield 63, 3) := by decide +kernel
theorem dX10_toldOfOne_52 : decode cX10_toldOfOne 52 = .ok (.iload_n 1, 1) := by decide +kernel
theorem dX10_toldOfOne_53 : decode cX10_toldOfOne 53 = .ok (.bipush 20, 2) := by decide +kernel
theorem dX10_toldOfOne_55 : decode cX10_toldOfOne 55 = .ok (.isub, 1) := by decide +kernel
theorem dX10_toldOfOne_56 : decode cX10_toldOfOne 56 = .ok (.invokevirtual 185, 3) := by decide +kernel
theorem dX10_toldOfOne_59 : decode cX10_toldOfOne 59 = .ok (.ireturn, 1) := by decide +kernel
theorem dX10_toldOfOne_60 : decode cX10_toldOfOne 60 = .ok (.aload_n 0, 1) := by decide +kernel
theorem dX10_toldOfOne_61 : decode cX10_toldOfOne 61 = .ok (.getfield 63, 3) := by decide +kernel
theorem dX10_toldOfOne_64 : decode cX10_toldOfOne 64 = .ok (.iload_n 1, 1) := by decide +kernel
theorem dX10_toldOfOne_65 : decode cX10_toldOfOne 65 = .ok (.bipush 30, 2) := by decide +kernel
theorem dX10_toldOfOne_67 : decode cX10_toldOfOne 67 = .ok (.isub, 1) := by decide +kernel
theorem dX10_toldOfOne_68 : decode cX10_toldOfOne 68 = .ok (.invokevirtual 188, 3) := by decide +kernel
theorem dX10_toldOfOne_71 : decode cX10_toldOfOne 71 = .ok (.ifCond .eq 19, 3) := by decide +kernel
theorem dX10_toldOfOne_74 : decode cX10_toldOfOne 74 = .ok (.aload_n 0, 1) := by decide +kernel
theorem dX10_toldOfOne_75 : decode cX10_toldOfOne 75 = .ok (.getfield 63, 3) := by decide +kernel
theorem dX10_toldOfOne_78 : decode cX10_toldOfOne 78 = .ok (.getfield 156, 3) := by decide +kernel
theorem dX10_toldOfOne_81 : decode cX10_toldOfOne 81 = .ok (.iload_n 1, 1) := by decide +kernel
theorem dX10_toldOfOne_82 : decode cX10_toldOfOne 82 = .ok (.bipush 30, 2) := by decide +kernel
theorem dX10_toldOfOne_84 : decode cX10_toldOfOne 84 = .ok (.isub, 1) := by decide +kernel
theorem dX10_toldOfOne_85 : decode cX10_toldOfOne 85 = .ok (.iconst 0, 1) := by decide +kernel
theorem dX10_toldOfOne_86 : decode cX10_toldOfOne 86 = .ok (.invokevirtual 191, 3) := by decide +kernel
theorem dX10_toldOfOne_89 : decode cX10_toldOfOne 89 = .ok (.ireturn, 1) := by decide +kernel
theorem dX10_toldOfOne_90 : decode cX10_toldOfOne 90 = .ok (.aload_n 0, 1) := by decide +kernel
theorem dX10_toldOfOne_91 : decode cX10_toldOfOne 91 = .ok (.getfield 63, 3) := by decide +kernel
theorem dX10_toldOfOne_94 : decode cX10_toldOfOne 94 = .ok (.iload_n 1, 1) := by decide +kernel
theorem dX10_toldOfOne_95 : decode cX10_toldOfOne 95 = .ok (.bipush 50, 2) := by decide +kernel
theorem dX10_toldOfOne_97 : decode cX10_toldOfOne 97 = .ok (.isub, 1) := by decide +kernel
theorem dX10_toldOfOne_98 : decode cX10_toldOfOne 98 = .ok (.invokevirtual 188, 3) := by decide +kernel
theorem dX10_toldOfOne_101 : decode cX10_toldOfOne 101 = .ok (.ifCond .eq 19, 3) := by decide +kernel
theorem dX10_toldOfOne_104 : decode cX10_toldOfOne 104 = .ok (.aload_n 0, 1) := by decide +kernel
theorem dX10_toldOfOne_105 : decode cX10_toldOfOne 105 = .ok (.getfield 63, 3) := by decide +kernel
theorem dX10_toldOfOne_108 : decode cX10_toldOfOne 108 = .ok (.getfield 156, 3) := by decide +kernel
theorem dX10_toldOfOne_111 : decode cX10_toldOfOne 111 = .ok (.iload_n 1, 1) := by decide +kernel
theorem dX10_toldOfOne_112 : decode cX10_toldOfOne 112 = .ok (.bipush 50, 2) := by decide +kernel
theorem dX10_toldOfOne_114 : decode cX10_toldOfOne 114 = .ok (.isub, 1) := by decide +kernel
theorem dX10_toldOfOne_115 : decode cX10_toldOfOne 115 = .ok (.iconst 1, 1) := by decide +kernel
theorem dX10_toldOfOne_116 : decode cX10_toldOfOne 116 = .ok (.invokevirtual 191, 3) := by decide +kernel
theorem dX10_toldOfOne_119 : decode cX10_toldOfOne 119 = .ok (.ireturn, 1) := by decide +kernel
theorem dX10_toldOfOne_120 : decode cX10_toldOfOne 120 = .ok (.iconst (-1), 1) := by decide +kernel
theorem dX10_toldOfOne_121 : decode cX10_toldOfOne 121 = .ok (.ireturn, 1) := by decide +kernel
noncomputable def f_X10_toldOfOne (a0 : Nat) (l1 : Int32) (μ : Mm) : Option Int32 :=
  if (mm_K μ a0).1 = 11 then (gf_P 11 13 a0 μ).bind fun x1 => (f_X7_isPerson x1 (l1 - (10 : Int32)) μ).bind fun x8 => if x8 = 0 then (gf_P 11 13 a0 μ).bind fun x35 => (f_X7_isPerson x35 (l1 - (20 : Int32)) μ).bind fun x42 => if x42 = 0 then (gf_P 11 13 a0 μ).bind fun x61 => (f_X7_isFact x61 (l1 - (30 : Int32)) μ).bind fun x68 => if x68 = 0 then (gf_P 11 13 a0 μ).bind fun x91 => (f_X7_isFact x91 (l1 - (50 : Int32)) μ).bind fun x98 => if x98 = 0 then some (-1 : Int32) else (gf_P 11 13 a0 μ).bind fun x105 => (gf_P 8 3 x105 μ).bind fun x108 => (f_X2_at x108 (l1 - (50 : Int32)) (1 : Int32) μ).bind fun x116 => some x116 else (gf_P 11 13 a0 μ).bind fun x75 => (gf_P 8 3 x75 μ).bind fun x78 => (f_X2_at x78 (l1 - (30 : Int32)) (0 : Int32) μ).bind fun x86 => some x86 else (gf_P 11 13 a0 μ).bind fun x49 => (f_X7_toldDreamOf x49 (l1 - (20 : Int32)) μ).bind fun x56 => some x56 else (gf_P 11 13 a0 μ).bind fun x15 => (f_X7_isAlone x15 (l1 - (10 : Int32)) μ).bind fun x22 => if x22 = 0 then some (0 : Int32) else some (1 : Int32) else none
abbrev Rn_X10_toldOfOne (G : Gv) (Q : Option Value → Mm → Prop) (pc : Nat) (lv : List (Nat × Value)) (st : List Value) (μ : Mm) : Prop := Rn G RX10 cX10_toldOfOne 2 (some .int) "toldOfOne" (rmd 2 0 0) (Zm G 0 0 Q) 0 0 pc lv st μ
set_option maxRecDepth 100000 in
set_option maxHeartbeats 4000000 in
theorem m_X10_toldOfOne {G : Gv} (a0 : Nat) (l1 : Int32) (μ : Mm) {r : Int32} (hx : f_X10_toldOfOne a0 l1 μ = some r) : Mt G yX10_toldOfOne cX10_toldOfOne 2 (some .int) 2 0 0 [.ref a0, .int l1] μ (fun v μ' => v = some (.int r) ∧ μ' = μ) := by
  refine Mt.of (by decide) (Nat.le_of_ble_eq_true rfl) ?_
  show Rn_X10_toldOfOne G (fun v μ' => v = some (.int r) ∧ μ' = μ) 0 [(0, .ref a0), (1, .int l1)] [] μ
  obtain ⟨_, h⟩ := Sat_ifp (show Sat (f_X10_toldOfOne a0 l1 μ) (fun x => x = r) from ⟨_, hx, rfl⟩)
  refine r_aload_n dX10_toldOfOne_0 0 rfl ?_
  obtain ⟨x1, e1, h⟩ := Sat_bind h
  refine r_getP fk_X10_63 rfl e1 dX10_toldOfOne_1 ?_
  refine r_iload_n dX10_toldOfOne_4 1 rfl ?_
  refine r_bipush (v := 10) dX10_toldOfOne_5 (by decide) ?_
  refine r_isub dX10_toldOfOne_7 ?_
  obtain ⟨x8, e8, h⟩ := Sat_bind h
  refine r_cV (t := 8) [.int (l1 - (10 : Int32))] [] (m_X7_isPerson x1 (l1 - (10 : Int32)) μ e8) ck_X7_isPerson lk_X10_178 in_X7_isPerson se_X7_isPerson (kd_of e8) ⟨rfl, by decide, by decide⟩ rfl rfl (Nat.le_of_ble_eq_true rfl) ⟨by decide, by decide⟩ ⟨Nat.zero_le _, Nat.zero_le _⟩ dX10_toldOfOne_8 ?_
  refine r_if_eq 34 dX10_toldOfOne_11 (by decide) (fun c11 => ?_) (fun c11 => ?_)
  · have h := Sat_pos c11 h
    refine r_aload_n dX10_toldOfOne_34 0 rfl ?_
    obtain ⟨x35, e35, h⟩ := Sat_bind h
    refine r_getP fk_X10_63 rfl e35 dX10_toldOfOne_35 ?_
    refine r_iload_n dX10_toldOfOne_38 1 rfl ?_
    refine r_bipush (v := 20) dX10_toldOfOne_39 (by decide) ?_
    refine r_isub dX10_toldOfOne_41 ?_
    obtain ⟨x42, e42, h⟩ := Sat_bind h
    refine r_cV (t := 8) [.int (l1 - (20 : Int32))] [] (m_X7_isPerson x35 (l1 - (20 : Int32)) μ e42) ck_X7_isPerson lk_X10_178 in_X7_isPerson se_X7_isPerson (kd_of e42) ⟨rfl, by decide, by decide⟩ rfl rfl (Nat.le_of_ble_eq_true rfl) ⟨by decide, by decide⟩ ⟨Nat.zero_le _, Nat.zero_le _⟩ dX10_toldOfOne_42 ?_
    refine r_if_eq 60 dX10_toldOfOne_45 (by decide) (fun c45 => ?_) (fun c45 => ?_)
    · have h := Sat_pos c45 h
      refine r_aload_n dX10_toldOfOne_60 0 rfl ?_
      obtain ⟨x61, e61, h⟩ := Sat_bind h
      refine r_getP fk_X10_63 rfl e61 dX10_toldOfOne_61 ?_
      refine r_iload_n dX10_toldOfOne_64 1 rfl ?_
      refine r_bipush (v := 30) dX10_toldOfOne_65 (by decide) ?_
      refine r_isub dX10_toldOfOne_67 ?_
      obtain ⟨x68, e68, h⟩ := Sat_bind h
      refine r_cV (t := 8) [.int (l1 - (30 : Int32))] [] (m_X7_isFact x61 (l1 - (30 : Int32)) μ e68) ck_X7_isFact lk_X10_188 in_X7_isFact se_X7_isFact (kd_of e68) ⟨rfl, by decide, by decide⟩ rfl rfl (Nat.le_of_ble_eq_true rfl) ⟨by decide, by decide⟩ ⟨Nat.zero_le _, Nat.zero_le _⟩ dX10_toldOfOne_68 ?_
      refine r_if_eq 90 dX10_toldOfOne_71 (by decide) (fun c71 => ?_) (fun c71 => ?_)
      · have h := Sat_pos c71 h
        refine r_aload_n dX10_toldOfOne_90 0 rfl ?_
        obtain ⟨x91, e91, h⟩ := Sat_bind h
        refine r_getP fk_X10_63 rfl e91 dX10_toldOfOne_91 ?_
        refine r_iload_n dX10_toldOfOne_94 1 rfl ?_
        refine r_bipush (v := 50) dX10_toldOfOne_95 (by decide) ?_
        refine r_isub dX10_toldOfOne_97 ?_
        obtain ⟨x98, e98, h⟩ := Sat_bind h
        refine r_cV (t := 8) [.int (l1 - (50 : Int32))] [] (m_X7_isFact x91 (l1 - (50 : Int32)) μ e98) ck_X7_isFact lk_X10_188 in_X7_isFact se_X7_isFact (kd_of e98) ⟨rfl, by decide, by decide⟩ rfl rfl (Nat.le_of_ble_eq_true rfl) ⟨by decide, by decide⟩ ⟨Nat.zero_le _, Nat.zero_le _⟩ dX10_toldOfOne_98 ?_
        refine r_if_eq 120 dX10_toldOfOne_101 (by decide) (fun c101 => ?_) (fun c101 => ?_)
        · have h := Sat_pos c101 h
          refine r_iconst (v := -1) dX10_toldOfOne_120 (by decide) ?_
          exact r_ireturn rfl (by rw [← Sat_eq h]; exact ⟨rfl, rfl⟩) dX10_toldOfOne_121
        · have h := Sat_neg c101 h
          refine r_aload_n dX10_toldOfOne_104 0 rfl ?_
          obtain ⟨x105, e105, h⟩ := Sat_bind h
          refine r_getP fk_X10_63 rfl e105 dX10_toldOfOne_105 ?_
          obtain ⟨x108, e108, h⟩ := Sat_bind h
          refine r_getP fk_X10_156 rfl e108 dX10_toldOfOne_108 ?_
          refine r_iload_n dX10_toldOfOne_111 1 rfl ?_
          refine r_bipush (v := 50) dX10_toldOfOne_112 (by decide) ?_
          refine r_isub dX10_toldOfOne_114 ?_
          refine r_iconst (v := 1) dX10_toldOfOne_115 (by decide) ?_
          obtain ⟨x116, e116, h⟩ := Sat_bind h
          refine r_cV (t := 3) [.int (l1 - (50 : Int32)), .int (1 : Int32)] [] (m_X2_at x108 (l1 - (50 : Int32)) (1 : Int32) μ e116) ck_X2_at lk_X10_191 in_X2_at se_X2_at (kd_of e116) ⟨rfl, by decide, by decide⟩ rfl rfl (Nat.le_of_ble_eq_true rfl) ⟨by decide, by decide⟩ ⟨Nat.zero_le _, Nat.zero_le _⟩ dX10_toldOfOne_116 ?_
          exact r_ireturn rfl (by rw [← Sat_eq h]; exact ⟨rfl, rfl⟩) dX10_toldOfOne_119
      · have h := Sat_neg c71 h
        refine r_aload_n dX10_toldOfOne_74 0 rfl ?_
        obtain ⟨x75, e75, h⟩ := Sat_bind h
        refine r_getP fk_X10_63 rfl e75 dX10_toldOfOne_75 ?_
        obtain ⟨x78, e78, h⟩ := Sat_bind h
        refine r_getP fk_X10_156 rfl e78 dX10_toldOfOne_78 ?_
        refine r_iload_n dX10_toldOfOne_81 1 rfl ?_
        refine r_bipush (v := 30) dX10_toldOfOne_82 (by decide) ?_
        refine r_isub dX10_toldOfOne_84 ?_
        refine r_iconst (v := 0) dX10_toldOfOne_85 (by decide) ?_
        obtain ⟨x86, e86, h⟩ := Sat_bind h
        refine r_cV (t := 3) [.int (l1 - (30 : Int32)), .int (0 : Int32)] [] (m_X2_at x78 (l1 - (30 : Int32)) (0 : Int32) μ e86) ck_X2_at lk_X10_191 in_X2_at se_X2_at (kd_of e86) ⟨rfl, by decide, by decide⟩ rfl rfl (Nat.le_of_ble_eq_true rfl) ⟨by decide, by decide⟩ ⟨Nat.zero_le _, Nat.zero_le _⟩ dX10_toldOfOne_86 ?_
        exact r_ireturn rfl (by rw [← Sat_eq h]; exact ⟨rfl, rfl⟩) dX10_toldOfOne_89
    · have h := Sat_neg c45 h
      refine r_aload_n dX10_toldOfOne_48 0 rfl ?_
      obtain ⟨x49, e49, h⟩ := Sat_bind h
      refine r_getP fk_X10_63 rfl e49 dX10_toldOfOne_49 ?_
      refine r_iload_n dX10_toldOfOne_52 1 rfl ?_
      refine r_bipush (v := 20) dX10_toldOfOne_53 (by decide) ?_
      refine r_isub dX10_toldOfOne_55 ?_
      obtain ⟨x56, e56, h⟩ := Sat_bind h
      refine r_cV (t := 8) [.int (l1 - (20 : Int32))] [] (m_X7_toldDreamOf x49 (l1 - (20 : Int32)) μ e56) ck_X7_toldDreamOf lk_X10_185 in_X7_toldDreamOf se_X7_toldDreamOf (kd_of e56) ⟨rfl, by decide, by decide⟩ rfl rfl (Nat.le_of_ble_eq_true rfl) ⟨by decide, by decide⟩ ⟨Nat.zero_le _, Nat.zero_le _⟩ dX10_toldOfOne_56 ?_
      exact r_ireturn rfl (by rw [← Sat_eq h]; exact ⟨rfl, rfl⟩) dX10_toldOfOne_59
  · have h := Sat_neg c11 h
    refine r_aload_n dX10_toldOfOne_14 0 rfl ?_
    obtain ⟨x15, e15, h⟩ := Sat_bind h
    refine r_getP fk_X10_63 rfl e15 dX10_toldOfOne_15 ?_
    refine r_iload_n dX10_toldOfOne_18 1 rfl ?_
    refine r_bipush (v := 10) dX10_toldOfOne_19 (by decide) ?_
    refine r_isub dX10_toldOfOne_21 ?_
    obtain ⟨x22, e22, h⟩ := Sat_bind h
    refine r_cV (t := 8) [.int (l1 - (10 : Int32))] [] (m_X7_isAlone x15 (l1 - (10 : Int32)) μ e22) ck_X7_isAlone lk_X10_182 in_X7_isAlone se_X7_isAlone (kd_of e22) ⟨rfl, by decide, by decide⟩ rfl rfl (Nat.le_of_ble_eq_true rfl) ⟨by decide, by decide⟩ ⟨Nat.zero_le _, Nat.zero_le _⟩ dX10_toldOfOne_22 ?_
    refine r_if_eq 32 dX10_toldOfOne_25 (by decide) (fun c25 => ?_) (fun c25 => ?_)
    · have h := Sat_pos c25 h
      refine r_iconst (v := 0) dX10_toldOfOne_32 (by decide) ?_
      exact r_ireturn rfl (by rw [← Sat_eq h]; exact ⟨rfl, rfl⟩) dX10_toldOfOne_33
    · have h := Sat_neg c25 h
      refine r_iconst (v := 1) dX10_toldOfOne_28 (by decide) ?_
      refine r_goto 33 dX10_toldOfOne_29 (by decide) ?_
      exact r_ireturn rfl (by rw [← Sat_eq h]; exact ⟨rfl, rfl⟩) dX10_toldOfOne_33
theorem dX10_told_0 : decode cX10_told 0 = .ok (.iload_n 1, 1) := by decide +kernel
theorem dX10_told_1 : decode cX10_told 1 = .ok (.tableswitch 96 0 5 #[39, 47, 58, 69, 80, 88], 39) := by decide +kernel
theorem dX10_told_40 : decode cX10_told 40 = .ok (.aload_n 0, 1) := by decide +kernel
theorem dX10_told_41 : decode cX10_told 41 = .ok (.getfield 63, 3) := by decide +kernel
theorem dX10_told_44 : decode cX10_told 44 = .ok (.getfield 153, 3) := by decide +kernel
theorem dX10_told_47 : decode cX10_told 47 = .ok (.ireturn, 1) := by decide +kernel
theorem dX10_told_48 : decode cX10_told 48 = .ok (.aload_n 0, 1) := by decide +kernel
theorem dX10_told_49 : decode cX10_told 49 = .ok (.getfield 63, 3) := by decide +kernel
theorem dX10_told_52 : decode cX10_told 52 = .ok (.getfield 156, 3) := by decide +kernel
theorem dX10_told_55 : decode cX10_told 55 = .ok (.getfield 160, 3) := by decide +kernel
theorem dX10_told_58 : decode cX10_told 58 = .ok (.ireturn, 1) := by decide +kernel
theorem dX10_told_59 : decode cX10_told 59 = .ok (.aload_n 0, 1) := by decide +kernel
theorem dX10_told_60 : decode cX10_told 60 = .ok (.getfield 63, 3) := by decide +kernel
theorem dX10_told_63 : decode cX10_told 63 = .ok (.getfield 163, 3) := by decide +kernel
theorem dX10_told_66 : decode cX10_told 66 = .ok (.getfield 160, 3) := by decide +kernel
theorem dX10_told_69 : decode cX10_told 69 = .ok (.ireturn, 1) := by decide +kernel
theorem dX10_told_70 : decode cX10_told 70 = .ok (.aload_n 0, 1) := by decide +kernel
theorem dX10_told_71 : decode cX10_told 71 = .ok (.getfield 63, 3) := by decide +kernel
theorem dX10_told_74 : decode cX10_told 74 = .ok (.getfield 166, 3) := by decide +kernel
theorem dX10_told_77 : decode cX10_told 77 = .ok (.getfield 160, 3) := by decide +kernel
theorem dX10_told_80 : decode cX10_told 80 = .ok (.ireturn, 1) := by decide +kernel
theorem dX10_told_81 : decode cX10_told 81 = .ok (.aload_n 0, 1) := by decide +kernel
theorem dX10_told_82 : decode cX10_told 82 = .ok (.getfield 63, 3) := by decide +kernel
theorem dX10_told_85 : decode cX10_told 85 = .ok (.getfield 169, 3) := by decide +kernel
theorem dX10_told_88 : decode cX10_told 88 = .ok (.ireturn, 1) := by decide +kernel
theorem dX10_told_89 : decode cX10_told 89 = .ok (.aload_n 0, 1) := by decide +kernel
theorem dX10_told_90 : decode cX10_told 90 = .ok (.getfield 63, 3) := by decide +kernel
theorem dX10_told_93 : decode cX10_told 93 = .ok (.getfield 172, 3) := by decide +kernel
theorem dX10_told_96 : decode cX10_told 96 = .ok (.ireturn, 1) := by decide +kernel
theorem dX10_told_97 : decode cX10_told 97 = .ok (.aload_n 0, 1) := by decide +kernel
theorem dX10_told_98 : decode cX10_told 98 = .ok (.iload_n 1, 1) := by decide +kernel
theorem dX10_told_99 : decode cX10_told 99 = .ok (.invokevirtual 175, 3) := by decide +kernel
theorem dX10_told_102 : decode cX10_told 102 = .ok (.ireturn, 1) := by decide +kernel
noncomputable def f_X10_told (a0 : Nat) (l1 : Int32) (μ : Mm) : Option Int32 :=
  if (mm_K μ a0).1 = 11 then if l1 = 0 then (gf_P 11 13 a0 μ).bind fun x41 => (gf_I 8 9 x41 μ).bind fun x44 => some x44 else if l1 = 1 then (gf_P 11 13 a0 μ).bind fun x49 => (gf_P 8 3 x49 μ).bind fun x52 => (gf_I 3 1 x52 μ).bind fun x55 => some x55 else if l1 = 2 then (gf_P 11 13 a0 μ).bind fun x60 => (gf_P 8 4 x60 μ).bind fun x63 => (gf_I 3 1 x63 μ).bind fun x66 => some x66 else if l1 = 3 then (gf_P 11 13 a0 μ).bind fun x71 => (gf_P 8 5 x71 μ).bind fun x74 => (gf_I 3 1 x74 μ).bind fun x77 => some x77 else if l1 = 4 then (gf_P 11 13 a0 μ).bind fun x82 => (gf_I 8 13 x82 μ).bind fun x85 => some x85 else if l1 = 5 then (gf_P 11 13 a0 μ).bind fun x90 => (gf_I 8 15 x90 μ).bind fun x93 => some x93 else (f_X10_toldOfOne a0 l1 μ).bind fun x99 => some x99 else none
abbrev Rn_X10_told (G : Gv) (Q : Option Value → Mm → Prop) (pc : Nat) (lv : List (Nat × Value)) (st : List Value) (μ : Mm) : Prop := Rn G RX10 cX10_told 2 (some .int) "told" (rmd 3 0 0) (Zm G 0 0 Q) 0 0 pc lv st μ
set_option maxRecDepth 100000 in
set_option maxHeartbeats 4000000 in
theorem m_X10_told {G : Gv} (a0 : Nat) (l1 : Int32) (μ : Mm) {r : Int32} (hx : f_X10_told a0 l1 μ = some r) : Mt G yX10_told cX10_told 2 (some .int) 3 0 0 [.ref a0, .int l1] μ (fun v μ' => v = some (.int r) ∧ μ' = μ) := by
  refine Mt.of (by decide) (Nat.le_of_ble_eq_true rfl) ?_
  show Rn_X10_told G (fun v μ' => v = some (.int r) ∧ μ' = μ) 0 [(0, .ref a0), (1, .int l1)] [] μ
  obtain ⟨_, h⟩ := Sat_ifp (show Sat (f_X10_told a0 l1 μ) (fun x => x = r) from ⟨_, hx, rfl⟩)
  refine r_iload_n dX10_told_0 1 rfl ?_
  by_cases c1_0 : l1 = 0
  · have h := Sat_pos c1_0 h
    refine r_tabIn c1_0 39 40 dX10_told_1 (by decide) (by decide) (by decide) (by decide) ?_
    refine r_aload_n dX10_told_40 0 rfl ?_
    obtain ⟨x41, e41, h⟩ := Sat_bind h
    refine r_getP fk_X10_63 rfl e41 dX10_told_41 ?_
    obtain ⟨x44, e44, h⟩ := Sat_bind h
    refine r_getI fk_X10_153 rfl e44 dX10_told_44 ?_
    exact r_ireturn rfl (by rw [← Sat_eq h]; exact ⟨rfl, rfl⟩) dX10_told_47
  have h := Sat_neg c1_0 h
  by_cases c1_1 : l1 = 1
  · have h := Sat_pos c1_1 h
    refine r_tabIn c1_1 47 48 dX10_told_1 (by decide) (by decide) (by decide) (by decide) ?_
    refine r_aload_n dX10_told_48 0 rfl ?_
    obtain ⟨x49, e49, h⟩ := Sat_bind h
    refine r_getP fk_X10_63 rfl e49 dX10_told_49 ?_
    obtain ⟨x52, e52, h⟩ := Sat_bind h
    refine r_getP fk_X10_156 rfl e52 dX10_told_52 ?_
    obtain ⟨x55, e55, h⟩ := Sat_bind h
    refine r_getI fk_X10_160 rfl e55 dX10_told_55 ?_
    exact r_ireturn rfl (by rw [← Sat_eq h]; exact ⟨rfl, rfl⟩) dX10_told_58
  have h := Sat_neg c1_1 h
  by_cases c1_2 : l1 = 2
  · have h := Sat_pos c1_2 h
    refine r_tabIn c1_2 58 59 dX10_told_1 (by decide) (by decide) (by decide) (by decide) ?_
    refine r_aload_n dX10_told_59 0 rfl ?_
    obtain ⟨x60, e60, h⟩ := Sat_bind h
    refine r_getP fk_X10_63 rfl e60 dX10_told_60 ?_
    obtain ⟨x63, e63, h⟩ := Sat_bind h
    refine r_getP fk_X10_163 rfl e63 dX10_told_63 ?_
    obtain ⟨x66, e66, h⟩ := Sat_bind h
    refine r_getI fk_X10_160 rfl e66 dX10_told_66 ?_
    exact r_ireturn rfl (by rw [← Sat_eq h]; exact ⟨rfl, rfl⟩) dX10_told_69
  have h := Sat_neg c1_2 h
  by_cases c1_3 : l1 = 3
  · have h := Sat_pos c1_3 h
    refine r_tabIn c1_3 69 70 dX10_told_1 (by decide) (by decide) (by decide) (by decide) ?_
    refine r_aload_n dX10_told_70 0 rfl ?_
    obtain ⟨x71, e71, h⟩ := Sat_bind h
    refine r_getP fk_X10_63 rfl e71 dX10_told_71 ?_
    obtain ⟨x74, e74, h⟩ := Sat_bind h
    refine r_getP fk_X10_166 rfl e74 dX10_told_74 ?_
    obtain ⟨x77, e77, h⟩ := Sat_bind h
    refine r_getI fk_X10_160 rfl e77 dX10_told_77 ?_
    exact r_ireturn rfl (by rw [← Sat_eq h]; exact ⟨rfl, rfl⟩) dX10_told_80
  have h := Sat_neg c1_3 h
  by_cases c1_4 : l1 = 4
  · have h := Sat_pos c1_4 h
    refine r_tabIn c1_4 80 81 dX10_told_1 (by decide) (by decide) (by decide) (by decide) ?_
    refine r_aload_n dX10_told_81 0 rfl ?_
    obtain ⟨x82, e82, h⟩ := Sat_bind h
    refine r_getP fk_X10_63 rfl e82 dX10_told_82 ?_
    obtain ⟨x85, e85, h⟩ := Sat_bind h
    refine r_getI fk_X10_169 rfl e85 dX10_told_85 ?_
    exact r_ireturn rfl (by rw [← Sat_eq h]; exact ⟨rfl, rfl⟩) dX10_told_88
  have h := Sat_neg c1_4 h
  by_cases c1_5 : l1 = 5
  · have h := Sat_pos c1_5 h
    refine r_tabIn c1_5 88 89 dX10_told_1 (by decide) (by decide) (by decide) (by decide) ?_
    refine r_aload_n dX10_told_89 0 rfl ?_
    obtain ⟨x90, e90, h⟩ := Sat_bind h
    refine r_getP fk_X10_63 rfl e90 dX10_told_90 ?_
    obtain ⟨x93, e93, h⟩ := Sat_bind h
    refine r_getI fk_X10_172 rfl e93 dX10_told_93 ?_
    exact r_ireturn rfl (by rw [← Sat_eq h]; exact ⟨rfl, rfl⟩) dX10_told_96
  have h := Sat_neg c1_5 h
  refine r_tabOut 97 dX10_told_1 (tab_out6 c1_0 c1_1 c1_2 c1_3 c1_4 c1_5) (by decide) ?_
  refine r_aload_n dX10_told_97 0 rfl ?_
  refine r_iload_n dX10_told_98 1 rfl ?_
  obtain ⟨x99, e99, h⟩ := Sat_bind h
  refine r_cV (t := 11) [.int l1] [] (m_X10_toldOfOne a0 l1 μ e99) ck_X10_toldOfOne lk_X10_175 in_X10_toldOfOne se_X10_toldOfOne (kd_of e99) ⟨rfl, by decide, by decide⟩ rfl rfl (Nat.le_of_ble_eq_true rfl) ⟨by decide, by decide⟩ ⟨Nat.zero_le _, Nat.zero_le _⟩ dX10_told_99 ?_
  exact r_ireturn rfl (by rw [← Sat_eq h]; exact ⟨rfl, rfl⟩) dX10_told_102
theorem dX8_fail_0 : decode cX8_fail 0 = .ok (.aload_n 0, 1) := by decide +kernel
theorem dX8_fail_1 : decode cX8_fail 1 = .ok (.iload_n 1, 1) := by decide +kernel
theorem dX8_fail_2 : decode cX8_fail 2 = .ok (.putfield 31, 3) := by decide +kernel
theorem dX8_fail_5 : decode cX8_fail 5 = .ok (.aload_n 0, 1) := by decide +kernel
theorem dX8_fail_6 : decode cX8_fail 6 = .ok (.aload_n 0, 1) := by decide +kernel
theorem dX8_fail_7 : decode cX8_fail 7 = .ok (.getfield 15, 3) := by decide +kernel
theorem dX8_fail_10 : decode cX8_fail 10 = .ok (.getfield 72, 3) := by decide +kernel
theorem dX8_fail_13 : decode cX8_fail 13 = .ok (.putfield 9, 3) := by decide +kernel
theorem dX8_fail_16 : decode cX8_fail 16 = .ok (.iconst 0, 1) := by decide +kernel
theorem dX8_fail_17 : decode cX8_fail 17 = .ok (.ireturn, 1) := by decide +kernel
noncomputable def f_X8_fail (a0 : Nat) (l1 : Int32) (μ : Mm) : Option (Int32 × Mm) :=
  if (mm_K μ a0).1 = 9 then (pf_I 9 3 a0 l1 μ).bind fun μ2 => (gf_P 9 0 a0 μ2).bind fun x7 => (gf_I 7 3 x7 μ2).bind fun x10 => (pf_I 9 4 a0 x10 μ2).bind fun μ13 => some ((0 : Int32), μ13) else none
abbrev Rn_X8_fail (G : Gv) (Q : Option Value → Mm → Prop) (pc : Nat) (lv : List (Nat × Value)) (st : List Value) (μ : Mm) : Prop := Rn G RX8 cX8_fail 2 (some .boolean) "fail" (rmd 0 0 0) (Zm G 0 0 Q) 0 0 pc lv st μ
set_option maxRecDepth 100000 in
set_option maxHeartbeats 4000000 in
theorem m_X8_fail {G : Gv} (a0 : Nat) (l1 : Int32) (μ : Mm) {r : (Int32 × Mm)} (hx : f_X8_fail a0 l1 μ = some r) : Mt G yX8_fail cX8_fail 2 (some .boolean) 0 0 0 [.ref a0, .int l1] μ (fun v μ' => v = some (.int r.1) ∧ μ' = r.2) := by
  refine Mt.of (by decide) (Nat.le_of_ble_eq_true rfl) ?_
  show Rn_X8_fail G (fun v μ' => v = some (.int r.1) ∧ μ' = r.2) 0 [(0, .ref a0), (1, .int l1)] [] μ
  obtain ⟨_, h⟩ := Sat_ifp (show Sat (f_X8_fail a0 l1 μ) (fun x => x = r) from ⟨_, hx, rfl⟩)
  refine r_aload_n dX8_fail_0 0 rfl ?_
  refine r_iload_n dX8_fail_1 1 rfl ?_
  obtain ⟨μ2, e2, h⟩ := Sat_bind h
  refine r_putI fk_X8_31 rfl rfl e2 dX8_fail_2 ?_
  refine r_aload_n dX8_fail_5 0 rfl ?_
  refine r_aload_n dX8_fail_6 0 rfl ?_
  obtain ⟨x7, e7, h⟩ := Sat_bind h
  refine r_getP fk_X8_15 rfl e7 dX8_fail_7 ?_
  obtain ⟨x10, e10, h⟩ := Sat_bind h
  refine r_getI fk_X8_72 rfl e10 dX8_fail_10 ?_
  obtain ⟨μ13, e13, h⟩ := Sat_bind h
  refine r_putI fk_X8_9 rfl rfl e13 dX8_fail_13 ?_
  refine r_iconst (v := 0) dX8_fail_16 (by decide) ?_
  exact r_zreturn rfl (by decide) (by rw [← Sat_eq h]; exact ⟨rfl, rfl⟩) dX8_fail_17
theorem dX8_isOnce_0 : decode cX8_isOnce 0 = .ok (.iload_n 0, 1) := by decide +kernel
theorem dX8_isOnce_1 : decode cX8_isOnce 1 = .ok (.bipush 9, 2) := by decide +kernel
theorem dX8_isOnce_3 : decode cX8_isOnce 3 = .ok (.if_icmp .eq 15, 3) := by decide +kernel
theorem dX8_isOnce_6 : decode cX8_isOnce 6 = .ok (.iload_n 0, 1) := by decide +kernel
theorem dX8_isOnce_7 : decode cX8_isOnce 7 = .ok (.bipush 10, 2) := by decide +kernel
theorem dX8_isOnce_9 : decode cX8_isOnce 9 = .ok (.if_icmp .eq 9, 3) := by decide +kernel
theorem dX8_isOnce_12 : decode cX8_isOnce 12 = .ok (.iload_n 0, 1) := by decide +kernel
theorem dX8_isOnce_13 : decode cX8_isOnce 13 = .ok (.bipush 11, 2) := by decide +kernel
theorem dX8_isOnce_15 : decode cX8_isOnce 15 = .ok (.if_icmp .ne 7, 3) := by decide +kernel
theorem dX8_isOnce_18 : decode cX8_isOnce 18 = .ok (.iconst 1, 1) := by decide +kernel
theorem dX8_isOnce_19 : decode cX8_isOnce 19 = .ok (.goto 4, 3) := by decide +kernel
theorem dX8_isOnce_22 : decode cX8_isOnce 22 = .ok (.iconst 0, 1) := by decide +kernel
theorem dX8_isOnce_23 : decode cX8_isOnce 23 = .ok (.ireturn, 1) := by decide +kernel
noncomputable def f_X8_isOnce_J18  (μ : Mm) : Option Int32 :=
  some (1 : Int32)
noncomputable def f_X8_isOnce (l0 : Int32) (μ : Mm) : Option Int32 :=
  if l0 = (9 : Int32) then f_X8_isOnce_J18 μ else if l0 = (10 : Int32) then f_X8_isOnce_J18 μ else if l0 = (11 : Int32) then f_X8_isOnce_J18 μ else some (0 : Int32)
abbrev Rn_X8_isOnce (G : Gv) (Q : Option Value → Mm → Prop) (pc : Nat) (lv : List (Nat × Value)) (st : List Value) (μ : Mm) : Prop := Rn G RX8 cX8_isOnce 1 (some .boolean) "isOnce" (rmd 0 0 0) (Zm G 0 0 Q) 0 0 pc lv st μ
set_option maxRecDepth 100000 in
set_option maxHeartbeats 4000000 in
theorem m_X8_isOnce {G : Gv} (l0 : Int32) (μ : Mm) {r : Int32} (hx : f_X8_isOnce l0 μ = some r) : Mt G yX8_isOnce cX8_isOnce 1 (some .boolean) 0 0 0 [.int l0] μ (fun v μ' => v = some (.int r) ∧ μ' = μ) := by
  refine Mt.of (by decide) (Nat.le_of_ble_eq_true rfl) ?_
  show Rn_X8_isOnce G (fun v μ' => v = some (.int r) ∧ μ' = μ) 0 [(0, .int l0)] [] μ
  have h : Sat (f_X8_isOnce l0 μ) (fun x => x = r) := ⟨_, hx, rfl⟩
  have J18 : Sat (f_X8_isOnce_J18 μ) (fun x => x = r) → Rn_X8_isOnce G (fun v μ' => v = some (.int r) ∧ μ' = μ) 18 [] [] μ := by
    intro  h
    refine r_iconst (v := 1) dX8_isOnce_18 (by decide) ?_
    refine r_goto 23 dX8_isOnce_19 (by decide) ?_
    exact r_zreturn rfl (by decide) (by rw [← Sat_eq h]; exact ⟨rfl, rfl⟩) dX8_isOnce_23
  refine r_iload_n dX8_isOnce_0 0 rfl ?_
  refine r_bipush (v := 9) dX8_isOnce_1 (by decide) ?_
  refine r_icmp_eq 18 dX8_isOnce_3 (by decide) (fun c3 => ?_) (fun c3 => ?_)
  · have h := Sat_pos c3 h
    exact r_sub [] rfl (J18  h)
  · have h := Sat_neg c3 h
    refine r_iload_n dX8_isOnce_6 0 rfl ?_
    refine r_bipush (v := 10) dX8_isOnce_7 (by decide) ?_
    refine r_icmp_eq 18 dX8_isOnce_9 (by decide) (fun c9 => ?_) (fun c9 => ?_)
    · have h := Sat_pos c9 h
      exact r_sub [] rfl (J18  h)
    · have h := Sat_neg c9 h
      refine r_iload_n dX8_isOnce_12 0 rfl ?_
      refine r_bipush (v := 11) dX8_isOnce_13 (by decide) ?_
      refine r_icmp_ne 22 dX8_isOnce_15 (by decide) (fun c15 => ?_) (fun c15 => ?_)
      · have h := Sat_neg c15 h
        refine r_iconst (v := 0) dX8_isOnce_22 (by decide) ?_
        exact r_zreturn rfl (by decide) (by rw [← Sat_eq h]; exact ⟨rfl, rfl⟩) dX8_isOnce_23
      · have h := Sat_pos c15 h
        exact r_sub [] rfl (J18  h)
theorem dX2_isFull_0 : decode cX2_isFull 0 = .ok (.aload_n 0, 1) := by decide +kernel
theorem dX2_isFull_1 : decode cX2_isFull 1 = .ok (.getfield 21, 3) := by decide +kernel
theorem dX2_isFull_4 : decode cX2_isFull 4 = .ok (.iconst 1, 1) := by decide +kernel
theorem dX2_isFull_5 : decode cX2_isFull 5 = .ok (.iadd, 1) := by decide +kernel
theorem dX2_isFull_6 : decode cX2_isFull 6 = .ok (.iconst 4, 1) := by decide +kernel
theorem dX2_isFull_7 : decode cX2_isFull 7 = .ok (.imul, 1) := by decide +kernel
theorem dX2_isFull_8 : decode cX2_isFull 8 = .ok (.aload_n 0, 1) := by decide +kernel
theorem dX2_isFull_9 : decode cX2_isFull 9 = .ok (.getfield 17, 3) := by decide +kernel
theorem dX2_isFull_12 : decode cX2_isFull 12 = .ok (.arraylength, 1) := by decide +kernel
theorem dX2_isFull_13 : decode cX2_isFull 13 = .ok (.if_icmp .le 7, 3) := by decide +kernel
theorem dX2_isFull_16 : decode cX2_isFull 16 = .ok (.iconst 1, 1) := by decide +kernel
theorem dX2_isFull_17 : decode cX2_isFull 17 = .ok (.goto 4, 3) := by decide +kernel
theorem dX2_isFull_20 : decode cX2_isFull 20 = .ok (.iconst 0, 1) := by decide +kernel
theorem dX2_isFull_21 : decode cX2_isFull 21 = .ok (.ireturn, 1) := by decide +kernel
noncomputable def f_X2_isFull (a0 : Nat) (μ : Mm) : Option Int32 :=
  if (mm_K μ a0).1 = 3 then (gf_I 3 1 a0 μ).bind fun x1 => (gf_P 3 0 a0 μ).bind fun x9 => (ga_len x9 μ).bind fun x12 => if ((x1 + (1 : Int32)) * (4 : Int32)) ≤ x12 then some (0 : Int32) else some (1 : Int32) else none
abbrev Rn_X2_isFull (G : Gv) (Q : Option Value → Mm → Prop) (pc : Nat) (lv : List (Nat × Value)) (st : List Value) (μ : Mm) : Prop := Rn G RX2 cX2_isFull 1 (some .boolean) "isFull" (rmd 0 0 0) (Zm G 0 0 Q) 0 0 pc lv st μ
set_option maxRecDepth 100000 in
set_option maxHeartbeats 4000000 in
theorem m_X2_isFull {G : Gv} (a0 : Nat) (μ : Mm) {r : Int32} (hx : f_X2_isFull a0 μ = some r) : Mt G yX2_isFull cX2_isFull 1 (some .boolean) 0 0 0 [.ref a0] μ (fun v μ' => v = some (.int r) ∧ μ' = μ) := by
  refine Mt.of (by decide) (Nat.le_of_ble_eq_true rfl) ?_
  show Rn_X2_isFull G (fun v μ' => v = some (.int r) ∧ μ' = μ) 0 [(0, .ref a0)] [] μ
  obtain ⟨_, h⟩ := Sat_ifp (show Sat (f_X2_isFull a0 μ) (fun x => x = r) from ⟨_, hx, rfl⟩)
  refine r_aload_n dX2_isFull_0 0 rfl ?_
  obtain ⟨x1, e1, h⟩ := Sat_bind h
  refine r_getI fk_X2_21 rfl e1 dX2_isFull_1 ?_
  refine r_iconst (v := 1) dX2_isFull_4 (by decide) ?_
  refine r_iadd dX2_isFull_5 ?_
  refine r_iconst (v := 4) dX2_isFull_6 (by decide) ?_
  refine r_imul dX2_isFull_7 ?_
  refine r_aload_n dX2_isFull_8 0 rfl ?_
  obtain ⟨x9, e9, h⟩ := Sat_bind h
  refine r_getP fk_X2_17 rfl e9 dX2_isFull_9 ?_
  obtain ⟨x12, e12, h⟩ := Sat_bind h
  refine r_len e12 dX2_isFull_12 ?_
  refine r_icmp_le 20 dX2_isFull_13 (by decide) (fun c13 => ?_) (fun c13 => ?_)
  · have h := Sat_pos c13 h
    refine r_iconst (v := 0) dX2_isFull_20 (by decide) ?_
    exact r_zreturn rfl (by decide) (by rw [← Sat_eq h]; exact ⟨rfl, rfl⟩) dX2_isFull_21
  · have h := Sat_neg c13 h
    refine r_iconst (v := 1) dX2_isFull_16 (by decide) ?_
    refine r_goto 21 dX2_isFull_17 (by decide) ?_
    exact r_zreturn rfl (by decide) (by rw [← Sat_eq h]; exact ⟨rfl, rfl⟩) dX2_isFull_21
theorem dX8_isRoomless_0 : decode cX8_isRoomless 0 = .ok (.iload_n 1, 1) := by decide +kernel
theorem dX8_isRoomless_1 : decode cX8_isRoomless 1 = .ok (.tableswitch 120 0 7 #[47, 120, 65, 76, 87, 98, 109, 109], 47) := by decide +kernel
theorem dX8_isRoomless_48 : decode cX8_isRoomless 48 = .ok (.aload_n 0, 1) := by decide +kernel
theorem dX8_isRoomless_49 : decode cX8_isRoomless 49 = .ok (.getfield 19, 3) := by decide +kernel
theorem dX8_isRoomless_52 : decode cX8_isRoomless 52 = .ok (.getfield 147, 3) := by decide +kernel
theorem dX8_isRoomless_55 : decode cX8_isRoomless 55 = .ok (.bipush 8, 2) := by decide +kernel
theorem dX8_isRoomless_57 : decode cX8_isRoomless 57 = .ok (.if_icmp .lt 7, 3) := by decide +kernel
theorem dX8_isRoomless_60 : decode cX8_isRoomless 60 = .ok (.iconst 1, 1) := by decide +kernel
theorem dX8_isRoomless_61 : decode cX8_isRoomless 61 = .ok (.goto 4, 3) := by decide +kernel
theorem dX8_isRoomless_64 : decode cX8_isRoomless 64 = .ok (.iconst 0, 1) := by decide +kernel
theorem dX8_isRoomless_65 : decode cX8_isRoomless 65 = .ok (.ireturn, 1) := by decide +kernel
theorem dX8_isRoomless_66 : decode cX8_isRoomless 66 = .ok (.aload_n 0, 1) := by decide +kernel
theorem dX8_isRoomless_67 : decode cX8_isRoomless 67 = .ok (.getfield 19, 3) := by decide +kernel
theorem dX8_isRoomless_70 : decode cX8_isRoomless 70 = .ok (.getfield 90, 3) := by decide +kernel
theorem dX8_isRoomless_73 : decode cX8_isRoomless 73 = .ok (.invokevirtual 150, 3) := by decide +kernel
theorem dX8_isRoomless_76 : decode cX8_isRoomless 76 = .ok (.ireturn, 1) := by decide +kernel
theorem dX8_isRoomless_77 : decode cX8_isRoomless 77 = .ok (.aload_n 0, 1) := by decide +kernel
theorem dX8_isRoomless_78 : decode cX8_isRoomless 78 = .ok (.getfield 19, 3) := by decide +kernel
theorem dX8_isRoomless_81 : decode cX8_isRoomless 81 = .ok (.getfield 155, 3) := by decide +kernel
theorem dX8_isRoomless_84 : decode cX8_isRoomless 84 = .ok (.invokevirtual 150, 3) := by decide +kernel
theorem dX8_isRoomless_87 : decode cX8_isRoomless 87 = .ok (.ireturn, 1) := by decide +kernel
theorem dX8_isRoomless_88 : decode cX8_isRoomless 88 = .ok (.aload_n 0, 1) := by decide +kernel
theorem dX8_isRoomless_89 : decode cX8_isRoomless 89 = .ok (.getfield 19, 3) := by decide +kernel
theorem dX8_isRoomless_92 : decode cX8_isRoomless 92 = .ok (.getfield 101, 3) := by decide +kernel
theorem dX8_isRoomless_95 : decode cX8_isRoomless 95 = .ok (.invokevirtual 150, 3) := by decide +kernel
theorem dX8_isRoomless_98 : decode cX8_isRoomless 98 = .ok (.ireturn, 1) := by decide +kernel
theorem dX8_isRoomless_99 : decode cX8_isRoomless 99 = .ok (.aload_n 0, 1) := by decide +kernel
theorem dX8_isRoomless_100 : decode cX8_isRoomless 100 = .ok (.getfield 19, 3) := by decide +kernel
theorem dX8_isRoomless_103 : decode cX8_isRoomless 103 = .ok (.getfield 158, 3) := by decide +kernel
theorem dX8_isRoomless_106 : decode cX8_isRoomless 106 = .ok (.invokevirtual 150, 3) := by decide +kernel
theorem dX8_isRoomless_109 : decode cX8_isRoomless 109 = .ok (.ireturn, 1) := by decide +kernel
theorem dX8_isRoomless_110 : decode cX8_isRoomless 110 = .ok (.aload_n 0, 1) := by decide +kernel
theorem dX8_isRoomless_111 : decode cX8_isRoomless 111 = .ok (.getfield 19, 3) := by decide +kernel
theorem dX8_isRoomless_114 : decode cX8_isRoomless 114 = .ok (.getfield 161, 3) := by decide +kernel
theorem dX8_isRoomless_117 : decode cX8_isRoomless 117 = .ok (.invokevirtual 150, 3) := by decide +kernel
theorem dX8_isRoomless_120 : decode cX8_isRoomless 120 = .ok (.ireturn, 1) := by decide +kernel
theorem dX8_isRoomless_121 : decode cX8_isRoomless 121 = .ok (.iconst 0, 1) := by decide +kernel
theorem dX8_isRoomless_122 : decode cX8_isRoomless 122 = .ok (.ireturn, 1) := by decide +kernel
noncomputable def f_X8_isRoomless (a0 : Nat) (l1 : Int32) (μ : Mm) : Option Int32 :=
  if (mm_K μ a0).1 = 9 then if l1 = 0 then (gf_P 9 1 a0 μ).bind fun x49 => (gf_I 8 9 x49 μ).bind fun x52 => if x52 < (8 : Int32) then some (0 : Int32) else some (1 : Int32) else if l1 = 1 then some (0 : Int32) else if l1 = 2 then (gf_P 9 1 a0 μ).bind fun x67 => (gf_P 8 3 x67 μ).bind fun x70 => (f_X2_isFull x70 μ).bind fun x73 => if x73 = 0 ∨ x73 = 1 then some x73 else none else if l1 = 3 then (gf_P 9 1 a0 μ).bind fun x78 => (gf_P 8 4 x78 μ).bind fun x81 => (f_X2_isFull x81 μ).bind fun x84 => if x84 = 0 ∨ x84 = 1 then some x84 else none else if l1 = 4 then (gf_P 9 1 a0 μ).bind fun x89 => (gf_P 8 5 x89 μ).bind fun x92 => (f_X2_isFull x92 μ).bind fun x95 => if x95 = 0 ∨ x95 = 1 then some x95 else none else if l1 = 5 then (gf_P 9 1 a0 μ).bind fun x100 => (gf_P 8 6 x100 μ).bind fun x103 => (f_X2_isFull x103 μ).bind fun x106 => if x106 = 0 ∨ x106 = 1 then some x106 else none else if l1 = 6 then (gf_P 9 1 a0 μ).bind fun x111 => (gf_P 8 7 x111 μ).bind fun x114 => (f_X2_isFull x114 μ).bind fun x117 => if x117 = 0 ∨ x117 = 1 then some x117 else none else if l1 = 7 then (gf_P 9 1 a0 μ).bind fun x111 => (gf_P 8 7 x111 μ).bind fun x114 => (f_X2_isFull x114 μ).bind fun x117 => if x117 = 0 ∨ x117 = 1 then some x117 else none else some (0 : Int32) else none
abbrev Rn_X8_isRoomless (G : Gv) (Q : Option Value → Mm → Prop) (pc : Nat) (lv : List (Nat × Value)) (st : List Value) (μ : Mm) : Prop := Rn G RX8 cX8_isRoomless 2 (some .boolean) "isRoomless" (rmd 1 0 0) (Zm G 0 0 Q) 0 0 pc lv st μ
set_option maxRecDepth 100000 in
set_option maxHeartbeats 4000000 in
theorem m_X8_isRoomless {G : Gv} (a0 : Nat) (l1 : Int32) (μ : Mm) {r : Int32} (hx : f_X8_isRoomless a0 l1 μ = some r) : Mt G yX8_isRoomless cX8_isRoomless 2 (some .boolean) 1 0 0 [.ref a0, .int l1] μ (fun v μ' => v = some (.int r) ∧ μ' = μ) := by
  refine Mt.of (by decide) (Nat.le_of_ble_eq_true rfl) ?_
  show Rn_X8_isRoomless G (fun v μ' => v = some (.int r) ∧ μ' = μ) 0 [(0, .ref a0), (1, .int l1)] [] μ
  obtain ⟨_, h⟩ := Sat_ifp (show Sat (f_X8_isRoomless a0 l1 μ) (fun x => x = r) from ⟨_, hx, rfl⟩)
  refine r_iload_n dX8_isRoomless_0 1 rfl ?_
  by_cases c1_0 : l1 = 0
  · have h := Sat_pos c1_0 h
    refine r_tabIn c1_0 47 48 dX8_isRoomless_1 (by decide) (by decide) (by decide) (by decide) ?_
    refine r_aload_n dX8_isRoomless_48 0 rfl ?_
    obtain ⟨x49, e49, h⟩ := Sat_bind h
    refine r_getP fk_X8_19 rfl e49 dX8_isRoomless_49 ?_
    obtain ⟨x52, e52, h⟩ := Sat_bind h
    refine r_getI fk_X8_147 rfl e52 dX8_isRoomless_52 ?_
    refine r_bipush (v := 8) dX8_isRoomless_55 (by decide) ?_
    refine r_icmp_lt 64 dX8_isRoomless_57 (by decide) (fun c57 => ?_) (fun c57 => ?_)
    · have h := Sat_pos c57 h
      refine r_iconst (v := 0) dX8_isRoomless_64 (by decide) ?_
      exact r_zreturn rfl (by decide) (by rw [← Sat_eq h]; exact ⟨rfl, rfl⟩) dX8_isRoomless_65
    · have h := Sat_neg c57 h
      refine r_iconst (v := 1) dX8_isRoomless_60 (by decide) ?_
      refine r_goto 65 dX8_isRoomless_61 (by decide) ?_
      exact r_zreturn rfl (by decide) (by rw [← Sat_eq h]; exact ⟨rfl, rfl⟩) dX8_isRoomless_65
  have h := Sat_neg c1_0 h
  by_cases c1_1 : l1 = 1
  · have h := Sat_pos c1_1 h
    refine r_tabIn c1_1 120 121 dX8_isRoomless_1 (by decide) (by decide) (by decide) (by decide) ?_
    refine r_iconst (v := 0) dX8_isRoomless_121 (by decide) ?_
    exact r_zreturn rfl (by decide) (by rw [← Sat_eq h]; exact ⟨rfl, rfl⟩) dX8_isRoomless_122
  have h := Sat_neg c1_1 h
  by_cases c1_2 : l1 = 2
  · have h := Sat_pos c1_2 h
    refine r_tabIn c1_2 65 66 dX8_isRoomless_1 (by decide) (by decide) (by decide) (by decide) ?_
    refine r_aload_n dX8_isRoomless_66 0 rfl ?_
    obtain ⟨x67, e67, h⟩ := Sat_bind h
    refine r_getP fk_X8_19 rfl e67 dX8_isRoomless_67 ?_
    obtain ⟨x70, e70, h⟩ := Sat_bind h
    refine r_getP fk_X8_90 rfl e70 dX8_isRoomless_70 ?_
    obtain ⟨x73, e73, h⟩ := Sat_bind h
    refine r_cV (t := 3) [] [] (m_X2_isFull x70 μ e73) ck_X2_isFull lk_X8_150 in_X2_isFull se_X2_isFull (kd_of e73) ⟨rfl, by decide, by decide⟩ rfl rfl (Nat.le_of_ble_eq_true rfl) ⟨by decide, by decide⟩ ⟨Nat.zero_le _, Nat.zero_le _⟩ dX8_isRoomless_73 ?_
    obtain ⟨hz, h⟩ := Sat_ifp h
    exact r_zreturn rfl hz (by rw [← Sat_eq h]; exact ⟨rfl, rfl⟩) dX8_isRoomless_76
  have h := Sat_neg c1_2 h
  by_cases c1_3 : l1 = 3
  · have h := Sat_pos c1_3 h
    refine r_tabIn c1_3 76 77 dX8_isRoomless_1 (by decide) (by decide) (by decide) (by decide) ?_
    refine r_aload_n dX8_isRoomless_77 0 rfl ?_
    obtain ⟨x78, e78, h⟩ := Sat_bind h
    refine r_getP fk_X8_19 rfl e78 dX8_isRoomless_78 ?_
    obtain ⟨x81, e81, h⟩ := Sat_bind h
    refine r_getP fk_X8_155 rfl e81 dX8_isRoomless_81 ?_
    obtain ⟨x84, e84, h⟩ := Sat_bind h
    refine r_cV (t := 3) [] [] (m_X2_isFull x81 μ e84) ck_X2_isFull lk_X8_150 in_X2_isFull se_X2_isFull (kd_of e84) ⟨rfl, by decide, by decide⟩ rfl rfl (Nat.le_of_ble_eq_true rfl) ⟨by decide, by decide⟩ ⟨Nat.zero_le _, Nat.zero_le _⟩ dX8_isRoomless_84 ?_
    obtain ⟨hz, h⟩ := Sat_ifp h
    exact r_zreturn rfl hz (by rw [← Sat_eq h]; exact ⟨rfl, rfl⟩) dX8_isRoomless_87
  have h := Sat_neg c1_3 h
  by_cases c1_4 : l1 = 4
  · have h := Sat_pos c1_4 h
    refine r_tabIn c1_4 87 88 dX8_isRoomless_1 (by decide) (by decide) (by decide) (by decide) ?_
    refine r_aload_n dX8_isRoomless_88 0 rfl ?_
    obtain ⟨x89, e89, h⟩ := Sat_bind h
    refine r_getP fk_X8_19 rfl e89 dX8_isRoomless_89 ?_
    obtain ⟨x92, e92, h⟩ := Sat_bind h
    refine r_getP fk_X8_101 rfl e92 dX8_isRoomless_92 ?_
    obtain ⟨x95, e95, h⟩ := Sat_bind h
    refine r_cV (t := 3) [] [] (m_X2_isFull x92 μ e95) ck_X2_isFull lk_X8_150 in_X2_isFull se_X2_isFull (kd_of e95) ⟨rfl, by decide, by decide⟩ rfl rfl (Nat.le_of_ble_eq_true rfl) ⟨by decide, by decide⟩ ⟨Nat.zero_le _, Nat.zero_le _⟩ dX8_isRoomless_95 ?_
    obtain ⟨hz, h⟩ := Sat_ifp h
    exact r_zreturn rfl hz (by rw [← Sat_eq h]; exact ⟨rfl, rfl⟩) dX8_isRoomless_98
  have h := Sat_neg c1_4 h
  by_cases c1_5 : l1 = 5
  · have h := Sat_pos c1_5 h
    refine r_tabIn c1_5 98 99 dX8_isRoomless_1 (by decide) (by decide) (by decide) (by decide) ?_
    refine r_aload_n dX8_isRoomless_99 0 rfl ?_
    obtain ⟨x100, e100, h⟩ := Sat_bind h
    refine r_getP fk_X8_19 rfl e100 dX8_isRoomless_100 ?_
    obtain ⟨x103, e103, h⟩ := Sat_bind h
    refine r_getP fk_X8_158 rfl e103 dX8_isRoomless_103 ?_
    obtain ⟨x106, e106, h⟩ := Sat_bind h
    refine r_cV (t := 3) [] [] (m_X2_isFull x103 μ e106) ck_X2_isFull lk_X8_150 in_X2_isFull se_X2_isFull (kd_of e106) ⟨rfl, by decide, by decide⟩ rfl rfl (Nat.le_of_ble_eq_true rfl) ⟨by decide, by decide⟩ ⟨Nat.zero_le _, Nat.zero_le _⟩ dX8_isRoomless_106 ?_
    obtain ⟨hz, h⟩ := Sat_ifp h
    exact r_zreturn rfl hz (by rw [← Sat_eq h]; exact ⟨rfl, rfl⟩) dX8_isRoomless_109
  have h := Sat_neg c1_5 h
  by_cases c1_6 : l1 = 6
  · have h := Sat_pos c1_6 h
    refine r_tabIn c1_6 109 110 dX8_isRoomless_1 (by decide) (by decide) (by decide) (by decide) ?_
    refine r_aload_n dX8_isRoomless_110 0 rfl ?_
    obtain ⟨x111, e111, h⟩ := Sat_bind h
    refine r_getP fk_X8_19 rfl e111 dX8_isRoomless_111 ?_
    obtain ⟨x114, e114, h⟩ := Sat_bind h
    refine r_getP fk_X8_161 rfl e114 dX8_isRoomless_114 ?_
    obtain ⟨x117, e117, h⟩ := Sat_bind h
    refine r_cV (t := 3) [] [] (m_X2_isFull x114 μ e117) ck_X2_isFull lk_X8_150 in_X2_isFull se_X2_isFull (kd_of e117) ⟨rfl, by decide, by decide⟩ rfl rfl (Nat.le_of_ble_eq_true rfl) ⟨by decide, by decide⟩ ⟨Nat.zero_le _, Nat.zero_le _⟩ dX8_isRoomless_117 ?_
    obtain ⟨hz, h⟩ := Sat_ifp h
    exact r_zreturn rfl hz (by rw [← Sat_eq h]; exact ⟨rfl, rfl⟩) dX8_isRoomless_120
  have h := Sat_neg c1_6 h
  by_cases c1_7 : l1 = 7
  · have h := Sat_pos c1_7 h
    refine r_tabIn c1_7 109 110 dX8_isRoomless_1 (by decide) (by decide) (by decide) (by decide) ?_
    refine r_aload_n dX8_isRoomless_110 0 rfl ?_
    obtain ⟨x111, e111, h⟩ := Sat_bind h
    refine r_getP fk_X8_19 rfl e111 dX8_isRoomless_111 ?_
    obtain ⟨x114, e114, h⟩ := Sat_bind h
    refine r_getP fk_X8_161 rfl e114 dX8_isRoomless_114 ?_
    obtain ⟨x117, e117, h⟩ := Sat_bind h
    refine r_cV (t := 3) [] [] (m_X2_isFull x114 μ e117) ck_X2_isFull lk_X8_150 in_X2_isFull se_X2_isFull (kd_of e117) ⟨rfl, by decide, by decide⟩ rfl rfl (Nat.le_of_ble_eq_true rfl) ⟨by decide, by decide⟩ ⟨Nat.zero_le _, Nat.zero_le _⟩ dX8_isRoomless_117 ?_
    obtain ⟨hz, h⟩ := Sat_ifp h
    exact r_zreturn rfl hz (by rw [← Sat_eq h]; exact ⟨rfl, rfl⟩) dX8_isRoomless_120
  have h := Sat_neg c1_7 h
  refine r_tabOut 121 dX8_isRoomless_1 (tab_out8 c1_0 c1_1 c1_2 c1_3 c1_4 c1_5 c1_6 c1_7) (by decide) ?_
  refine r_iconst (v := 0) dX8_isRoomless_121 (by decide) ?_
  exact r_zreturn rfl (by decide) (by rw [← Sat_eq h]; exact ⟨rfl, rfl⟩) dX8_isRoomless_122
theorem dX6_isWord_0 : decode cX6_isWord 0 = .ok (.aload_n 0, 1) := by decide +kernel
theorem dX6_isWord_1 : decode cX6_isWord 1 = .ok (.getfield 31, 3) := by decide +kernel
theorem dX6_isWord_4 : decode cX6_isWord 4 = .ok (.iconst 1, 1) := by decide +kernel
theorem dX6_isWord_5 : decode cX6_isWord 5 = .ok (.if_icmp .ne 14, 3) := by decide +kernel
theorem dX6_isWord_8 : decode cX6_isWord 8 = .ok (.aload_n 0, 1) := by decide +kernel
theorem dX6_isWord_9 : decode cX6_isWord 9 = .ok (.getfield 54, 3) := by decide +kernel
theorem dX6_isWord_12 : decode cX6_isWord 12 = .ok (.aload_n 1, 1) := by decide +kernel
theorem dX6_isWord_13 : decode cX6_isWord 13 = .ok (.invokevirtual 60, 3) := by decide +kernel
theorem dX6_isWord_16 : decode cX6_isWord 16 = .ok (.if_icmp .eq 5, 3) := by decide +kernel
theorem dX6_isWord_19 : decode cX6_isWord 19 = .ok (.iconst 0, 1) := by decide +kernel
theorem dX6_isWord_20 : decode cX6_isWord 20 = .ok (.ireturn, 1) := by decide +kernel
theorem dX6_isWord_21 : decode cX6_isWord 21 = .ok (.iconst 0, 1) := by decide +kernel
theorem dX6_isWord_22 : decode cX6_isWord 22 = .ok (.istore_n 2, 1) := by decide +kernel
theorem dX6_isWord_23 : decode cX6_isWord 23 = .ok (.iload_n 2, 1) := by decide +kernel
theorem dX6_isWord_24 : decode cX6_isWord 24 = .ok (.aload_n 1, 1) := by decide +kernel
theorem dX6_isWord_25 : decode cX6_isWord 25 = .ok (.invokevirtual 60, 3) := by decide +kernel
theorem dX6_isWord_28 : decode cX6_isWord 28 = .ok (.if_icmp .ge 32, 3) := by decide +kernel
theorem dX6_isWord_31 : decode cX6_isWord 31 = .ok (.aload_n 0, 1) := by decide +kernel
theorem dX6_isWord_32 : decode cX6_isWord 32 = .ok (.getfield 9, 3) := by decide +kernel
theorem dX6_isWord_35 : decode cX6_isWord 35 = .ok (.aload_n 0, 1) := by decide +kernel
theorem dX6_isWord_36 : decode cX6_isWord 36 = .ok (.getfield 22, 3) := by decide +kernel
theorem dX6_isWord_39 : decode cX6_isWord 39 = .ok (.iload_n 2, 1) := by decide +kernel
theorem dX6_isWord_40 : decode cX6_isWord 40 = .ok (.iadd, 1) := by decide +kernel
theorem dX6_isWord_41 : decode cX6_isWord 41 = .ok (.invokevirtual 25, 3) := by decide +kernel
theorem dX6_isWord_44 : decode cX6_isWord 44 = .ok (.aload_n 1, 1) := by decide +kernel
theorem dX6_isWord_45 : decode cX6_isWord 45 = .ok (.iload_n 2, 1) := by decide +kernel
theorem dX6_isWord_46 : decode cX6_isWord 46 = .ok (.invokevirtual 65, 3) := by decide +kernel
theorem dX6_isWord_49 : decode cX6_isWord 49 = .ok (.if_icmp .eq 5, 3) := by decide +kernel
theorem dX6_isWord_52 : decode cX6_isWord 52 = .ok (.iconst 0, 1) := by decide +kernel
theorem dX6_isWord_53 : decode cX6_isWord 53 = .ok (.ireturn, 1) := by decide +kernel
theorem dX6_isWord_54 : decode cX6_isWord 54 = .ok (.iinc 2 1, 3) := by decide +kernel
theorem dX6_isWord_57 : decode cX6_isWord 57 = .ok (.goto (-34), 3) := by decide +kernel
theorem dX6_isWord_60 : decode cX6_isWord 60 = .ok (.iconst 1, 1) := by decide +kernel
theorem dX6_isWord_61 : decode cX6_isWord 61 = .ok (.ireturn, 1) := by decide +kernel
noncomputable def f_X6_isWord_L23 (a0 : Nat) (l1 : Nat) (μ : Mm) (s23 : Int32) : Option ((Int32) ⊕ ((Unit) ⊕ (Unit))) :=
  (sx_len l1 μ).bind fun x25 => if x25 ≤ s23 then some (.inr (.inr ())) else (gf_P 7 0 a0 μ).bind fun x32 => (gf_I 7 3 a0 μ).bind fun x36 => (f_X5_at x32 (x36 + s23) μ).bind fun x41 => (sx_at l1 s23 μ).bind fun x46 => if x41 = x46 then (some (s23 + (1 : Int32))).bind fun v54 => some (.inl v54) else some (.inr (.inl ()))
noncomputable def f_X6_isWord (a0 : Nat) (l1 : Nat) (μ : Mm) : Option Int32 :=
  if (mm_K μ a0).1 = 7 then (gf_I 7 2 a0 μ).bind fun x1 => if x1 = (1 : Int32) then (gf_I 7 4 a0 μ).bind fun x9 => (sx_len l1 μ).bind fun x13 => if x9 = x13 then (whl (f_X6_isWord_L23 a0 l1 μ) (0 : Int32)).bind (sm (fun b23 => some (0 : Int32)) (fun b23 => some (1 : Int32))) else some (0 : Int32) else some (0 : Int32) else none
abbrev Rn_X6_isWord (G : Gv) (Q : Option Value → Mm → Prop) (pc : Nat) (lv : List (Nat × Value)) (st : List Value) (μ : Mm) : Prop := Rn G RX6 cX6_isWord 3 (some .boolean) "isWord" (rmd 4 0 0) (Zm G 0 0 Q) 0 0 pc lv st μ
set_option maxRecDepth 100000 in
set_option maxHeartbeats 4000000 in
theorem m_X6_isWord {G : Gv} (a0 : Nat) (l1 : Nat) (μ : Mm) {r : Int32} (hx : f_X6_isWord a0 l1 μ = some r) : Mt G yX6_isWord cX6_isWord 3 (some .boolean) 4 0 0 [.ref a0, .ref l1] μ (fun v μ' => v = some (.int r) ∧ μ' = μ) := by
  refine Mt.of (by decide) (Nat.le_of_ble_eq_true rfl) ?_
  show Rn_X6_isWord G (fun v μ' => v = some (.int r) ∧ μ' = μ) 0 [(0, .ref a0), (1, .ref l1)] [] μ
  obtain ⟨_, h⟩ := Sat_ifp (show Sat (f_X6_isWord a0 l1 μ) (fun x => x = r) from ⟨_, hx, rfl⟩)
  refine r_aload_n dX6_isWord_0 0 rfl ?_
  obtain ⟨x1, e1, h⟩ := Sat_bind h
  refine r_getI fk_X6_31 rfl e1 dX6_isWord_1 ?_
  refine r_iconst (v := 1) dX6_isWord_4 (by decide) ?_
  refine r_icmp_ne 19 dX6_isWord_5 (by decide) (fun c5 => ?_) (fun c5 => ?_)
  · have h := Sat_neg c5 h
    refine r_iconst (v := 0) dX6_isWord_19 (by decide) ?_
    exact r_zreturn rfl (by decide) (by rw [← Sat_eq h]; exact ⟨rfl, rfl⟩) dX6_isWord_20
  · have h := Sat_pos c5 h
    refine r_aload_n dX6_isWord_8 0 rfl ?_
    obtain ⟨x9, e9, h⟩ := Sat_bind h
    refine r_getI fk_X6_54 rfl e9 dX6_isWord_9 ?_
    refine r_aload_n dX6_isWord_12 1 rfl ?_
    obtain ⟨x13, e13, h⟩ := Sat_bind h
    refine r_cStr [] [.int x9] (m_sx_len l1 μ e13) ck_J0_length_8abf5 lk_X6_60 in_J0_length_8abf5 se_J0_length_8abf5 (sx_len_ix e13) rfl rfl rfl (Nat.le_of_ble_eq_true rfl) ⟨by decide, by decide⟩ ⟨Nat.zero_le _, Nat.zero_le _⟩ dX6_isWord_13 ?_
    refine r_icmp_eq 21 dX6_isWord_16 (by decide) (fun c16 => ?_) (fun c16 => ?_)
    · have h := Sat_pos c16 h
      refine r_iconst (v := 0) dX6_isWord_21 (by decide) ?_
      refine r_istore_n (lv' := [(2, .int (0 : Int32)), (0, .ref a0), (1, .ref l1)]) dX6_isWord_22 rfl (by decide) rfl ?_
      refine r_sub (lv' := [(0, .ref a0), (1, .ref l1), (2, .int (0 : Int32))]) [1, 2, 0] rfl ?_
      refine whl_K (s0 := ((0 : Int32) : Int32)) (RR := fun (s23 : Int32) => Rn_X6_isWord G (fun v μ' => v = some (.int r) ∧ μ' = μ) 23 [(0, .ref a0), (1, .ref l1), (2, .int s23)] [] μ) ?_ (Sat_bindK h)
      intro s23 K23 hI23 hX23 h
      refine r_iload_n dX6_isWord_23 2 rfl ?_
      refine r_aload_n dX6_isWord_24 1 rfl ?_
      obtain ⟨x25, e25, h⟩ := Sat_bind h
      refine r_cStr [] [.int s23] (m_sx_len l1 μ e25) ck_J0_length_8abf5 lk_X6_60 in_J0_length_8abf5 se_J0_length_8abf5 (sx_len_ix e25) rfl rfl rfl (Nat.le_of_ble_eq_true rfl) ⟨by decide, by decide⟩ ⟨Nat.zero_le _, Nat.zero_le _⟩ dX6_isWord_25 ?_
      refine r_icmp_ge 60 dX6_isWord_28 (by decide) (fun c28 => ?_) (fun c28 => ?_)
      · have h := Sat_pos c28 h
        have h := hX23 _ (Sat_some h)
        refine r_iconst (v := 1) dX6_isWord_60 (by decide) ?_
        exact r_zreturn rfl (by decide) (by rw [← Sat_eq h]; exact ⟨rfl, rfl⟩) dX6_isWord_61
      · have h := Sat_neg c28 h
        refine r_aload_n dX6_isWord_31 0 rfl ?_
        obtain ⟨x32, e32, h⟩ := Sat_bind h
        refine r_getP fk_X6_9 rfl e32 dX6_isWord_32 ?_
        refine r_aload_n dX6_isWord_35 0 rfl ?_
        obtain ⟨x36, e36, h⟩ := Sat_bind h
        refine r_getI fk_X6_22 rfl e36 dX6_isWord_36 ?_
        refine r_iload_n dX6_isWord_39 2 rfl ?_
        refine r_iadd dX6_isWord_40 ?_
        obtain ⟨x41, e41, h⟩ := Sat_bind h
        refine r_cV (t := 6) [.int (x36 + s23)] [] (m_X5_at x32 (x36 + s23) μ e41) ck_X5_at lk_X6_25 in_X5_at se_X5_at (kd_of e41) ⟨rfl, by decide, by decide⟩ rfl rfl (Nat.le_of_ble_eq_true rfl) ⟨by decide, by decide⟩ ⟨Nat.zero_le _, Nat.zero_le _⟩ dX6_isWord_41 ?_
        refine r_aload_n dX6_isWord_44 1 rfl ?_
        refine r_iload_n dX6_isWord_45 2 rfl ?_
        obtain ⟨x46, e46, h⟩ := Sat_bind h
        refine r_cStr [.int s23] [.int x41] (m_sx_at l1 s23 μ e46) ck_J0_charAt_5068e lk_X6_65 in_J0_charAt_5068e se_J0_charAt_5068e (sx_at_ix e46) rfl rfl rfl (Nat.le_of_ble_eq_true rfl) ⟨by decide, by decide⟩ ⟨Nat.zero_le _, Nat.zero_le _⟩ dX6_isWord_46 ?_
        refine r_icmp_eq 54 dX6_isWord_49 (by decide) (fun c49 => ?_) (fun c49 => ?_)
        · have h := Sat_pos c49 h
          obtain ⟨v54, e54, h⟩ := Sat_bind h
          refine r_iinc (j := 2) (v := v54) (lv' := [(2, .int v54), (0, .ref a0), (1, .ref l1)]) dX6_isWord_54 rfl (iinc_v e54 (by decide)) (by decide) rfl ?_
          refine r_goto 23 dX6_isWord_57 (by decide) ?_
          exact r_sub [1, 2, 0] rfl (hI23 _ (Sat_some h))
        · have h := Sat_neg c49 h
          have h := hX23 _ (Sat_some h)
          refine r_iconst (v := 0) dX6_isWord_52 (by decide) ?_
          exact r_zreturn rfl (by decide) (by rw [← Sat_eq h]; exact ⟨rfl, rfl⟩) dX6_isWord_53
    · have h := Sat_neg c16 h
      refine r_iconst (v := 0) dX6_isWord_19 (by decide) ?_
      exact r_zreturn rfl (by decide) (by rw [← Sat_eq h]; exact ⟨rfl, rfl⟩) dX6_isWord_20
theorem dX8_rareKeyword_0 : decode cX8_rareKeyword 0 = .ok (.aload_n 0, 1) := by decide +kernel
theorem dX8_rareKeyword_1 : decode cX8_rareKeyword 1 = .ok (.getfield 15, 3) := by decide +kernel
theorem dX8_rareKeyword_4 : decode cX8_rareKeyword 4 = .ok (.ldc 139, 2) := by decide +kernel
theorem dX8_rareKeyword_6 : decode cX8_rareKeyword 6 = .ok (.invokevirtual 118, 3) := by decide +kernel
theorem dX8_rareKeyword_9 : decode cX8_rareKeyword 9 = .ok (.ifCond .eq 6, 3) := by decide +kernel
theorem dX8_rareKeyword_12 : decode cX8_rareKeyword 12 = .ok (.bipush 8, 2) := by decide +kernel
theorem dX8_rareKeyword_14 : decode cX8_rareKeyword 14 = .ok (.ireturn, 1) := by decide +kernel
theorem dX8_rareKeyword_15 : decode cX8_rareKeyword 15 = .ok (.aload_n 0, 1) := by decide +kernel
theorem dX8_rareKeyword_16 : decode cX8_rareKeyword 16 = .ok (.getfield 15, 3) := by decide +kernel
theorem dX8_rareKeyword_19 : decode cX8_rareKeyword 19 = .ok (.ldc 141, 2) := by decide +kernel
theorem dX8_rareKeyword_21 : decode cX8_rareKeyword 21 = .ok (.invokevirtual 118, 3) := by decide +kernel
theorem dX8_rareKeyword_24 : decode cX8_rareKeyword 24 = .ok (.ifCond .eq 6, 3) := by decide +kernel
theorem dX8_rareKeyword_27 : decode cX8_rareKeyword 27 = .ok (.bipush 9, 2) := by decide +kernel
theorem dX8_rareKeyword_29 : decode cX8_rareKeyword 29 = .ok (.ireturn, 1) := by decide +kernel
theorem dX8_rareKeyword_30 : decode cX8_rareKeyword 30 = .ok (.aload_n 0, 1) := by decide +kernel
theorem dX8_rareKeyword_31 : decode cX8_rareKeyword 31 = .ok (.getfield 15, 3) := by decide +kernel
theorem dX8_rareKeyword_34 : decode cX8_rareKeyword 34 = .ok (.ldc 143, 2) := by decide +kernel
theorem dX8_rareKeyword_36 : decode cX8_rareKeyword 36 = .ok (.invokevirtual 118, 3) := by decide +kernel
theorem dX8_rareKeyword_39 : decode cX8_rareKeyword 39 = .ok (.ifCond .eq 6, 3) := by decide +kernel
theorem dX8_rareKeyword_42 : decode cX8_rareKeyword 42 = .ok (.bipush 10, 2) := by decide +kernel
theorem dX8_rareKeyword_44 : decode cX8_rareKeyword 44 = .ok (.ireturn, 1) := by decide +kernel
theorem dX8_rareKeyword_45 : decode cX8_rareKeyword 45 = .ok (.aload_n 0, 1) := by decide +kernel
theorem dX8_rareKeyword_46 : decode cX8_rareKeyword 46 = .ok (.getfield 15, 3) := by decide +kernel
theorem dX8_rareKeyword_49 : decode cX8_rareKeyword 49 = .ok (.ldc 145, 2) := by decide +kernel
theorem dX8_rareKeyword_51 : decode cX8_rareKeyword 51 = .ok (.invokevirtual 118, 3) := by decide +kernel
theorem dX8_rareKeyword_54 : decode cX8_rareKeyword 54 = .ok (.ifCond .eq 8, 3) := by decide +kernel
theorem dX8_rareKeyword_57 : decode cX8_rareKeyword 57 = .ok (.bipush 11, 2) := by decide +kernel
theorem dX8_rareKeyword_59 : decode cX8_rareKeyword 59 = .ok (.goto 4, 3) := by decide +kernel
theorem dX8_rareKeyword_62 : decode cX8_rareKeyword 62 = .ok (.iconst (-1), 1) := by decide +kernel
theorem dX8_rareKeyword_63 : decode cX8_rareKeyword 63 = .ok (.ireturn, 1) := by decide +kernel
noncomputable def f_X8_rareKeyword (a0 : Nat) (μ : Mm) : Option Int32 :=
  if (mm_K μ a0).1 = 9 then (gf_P 9 0 a0 μ).bind fun x1 => (f_X6_isWord x1 (mm_S μ 8) μ).bind fun x6 => if x6 = 0 then (gf_P 9 0 a0 μ).bind fun x16 => (f_X6_isWord x16 (mm_S μ 9) μ).bind fun x21 => if x21 = 0 then (gf_P 9 0 a0 μ).bind fun x31 => (f_X6_isWord x31 (mm_S μ 10) μ).bind fun x36 => if x36 = 0 then (gf_P 9 0 a0 μ).bind fun x46 => (f_X6_isWord x46 (mm_S μ 11) μ).bind fun x51 => if x51 = 0 then some (-1 : Int32) else some (11 : Int32) else some (10 : Int32) else some (9 : Int32) else some (8 : Int32) else none
abbrev Rn_X8_rareKeyword (G : Gv) (Q : Option Value → Mm → Prop) (pc : Nat) (lv : List (Nat × Value)) (st : List Value) (μ : Mm) : Prop := Rn G RX8 cX8_rareKeyword 1 (some .int) "rareKeyword" (rmd 5 0 0) (Zm G 0 0 Q) 0 0 pc lv st μ
set_option maxRecDepth 100000 in
set_option maxHeartbeats 4000000 in
theorem m_X8_rareKeyword {G : Gv} (a0 : Nat) (μ : Mm) {r : Int32} (hx : f_X8_rareKeyword a0 μ = some r) : Mt G yX8_rareKeyword cX8_rareKeyword 1 (some .int) 5 0 0 [.ref a0] μ (fun v μ' => v = some (.int r) ∧ μ' = μ) := by
  refine Mt.of (by decide) (Nat.le_of_ble_eq_true rfl) ?_
  show Rn_X8_rareKeyword G (fun v μ' => v = some (.int r) ∧ μ' = μ) 0 [(0, .ref a0)] [] μ
  obtain ⟨_, h⟩ := Sat_ifp (show Sat (f_X8_rareKeyword a0 μ) (fun x => x = r) from ⟨_, hx, rfl⟩)
  refine r_aload_n dX8_rareKeyword_0 0 rfl ?_
  obtain ⟨x1, e1, h⟩ := Sat_bind h
  refine r_getP fk_X8_15 rfl e1 dX8_rareKeyword_1 ?_
  refine r_ldcS 8 (by decide) rfl rfl dX8_rareKeyword_4 ?_
  obtain ⟨x6, e6, h⟩ := Sat_bind h
  refine r_cV (t := 7) [.ref (mm_S μ 8)] [] (m_X6_isWord x1 (mm_S μ 8) μ e6) ck_X6_isWord lk_X8_118 in_X6_isWord se_X6_isWord (kd_of e6) ⟨rfl, by decide, by decide⟩ rfl rfl (Nat.le_of_ble_eq_true rfl) ⟨by decide, by decide⟩ ⟨Nat.zero_le _, Nat.zero_le _⟩ dX8_rareKeyword_6 ?_
  refine r_if_eq 15 dX8_rareKeyword_9 (by decide) (fun c9 => ?_) (fun c9 => ?_)
  · have h := Sat_pos c9 h
    refine r_aload_n dX8_rareKeyword_15 0 rfl ?_
    obtain ⟨x16, e16, h⟩ := Sat_bind h
    refine r_getP fk_X8_15 rfl e16 dX8_rareKeyword_16 ?_
    refine r_ldcS 9 (by decide) rfl rfl dX8_rareKeyword_19 ?_
    obtain ⟨x21, e21, h⟩ := Sat_bind h
    refine r_cV (t := 7) [.ref (mm_S μ 9)] [] (m_X6_isWord x16 (mm_S μ 9) μ e21) ck_X6_isWord lk_X8_118 in_X6_isWord se_X6_isWord (kd_of e21) ⟨rfl, by decide, by decide⟩ rfl rfl (Nat.le_of_ble_eq_true rfl) ⟨by decide, by decide⟩ ⟨Nat.zero_le _, Nat.zero_le _⟩ dX8_rareKeyword_21 ?_
    refine r_if_eq 30 dX8_rareKeyword_24 (by decide) (fun c24 => ?_) (fun c24 => ?_)
    · have h := Sat_pos c24 h
      refine r_aload_n dX8_rareKeyword_30 0 rfl ?_
      obtain ⟨x31, e31, h⟩ := Sat_bind h
      refine r_getP fk_X8_15 rfl e31 dX8_rareKeyword_31 ?_
      refine r_ldcS 10 (by decide) rfl rfl dX8_rareKeyword_34 ?_
      obtain ⟨x36, e36, h⟩ := Sat_bind h
      refine r_cV (t := 7) [.ref (mm_S μ 10)] [] (m_X6_isWord x31 (mm_S μ 10) μ e36) ck_X6_isWord lk_X8_118 in_X6_isWord se_X6_isWord (kd_of e36) ⟨rfl, by decide, by decide⟩ rfl rfl (Nat.le_of_ble_eq_true rfl) ⟨by decide, by decide⟩ ⟨Nat.zero_le _, Nat.zero_le _⟩ dX8_rareKeyword_36 ?_
      refine r_if_eq 45 dX8_rareKeyword_39 (by decide) (fun c39 => ?_) (fun c39 => ?_)
      · have h := Sat_pos c39 h
        refine r_aload_n dX8_rareKeyword_45 0 rfl ?_
        obtain ⟨x46, e46, h⟩ := Sat_bind h
        refine r_getP fk_X8_15 rfl e46 dX8_rareKeyword_46 ?_
        refine r_ldcS 11 (by decide) rfl rfl dX8_rareKeyword_49 ?_
        obtain ⟨x51, e51, h⟩ := Sat_bind h
        refine r_cV (t := 7) [.ref (mm_S μ 11)] [] (m_X6_isWord x46 (mm_S μ 11) μ e51) ck_X6_isWord lk_X8_118 in_X6_isWord se_X6_isWord (kd_of e51) ⟨rfl, by decide, by decide⟩ rfl rfl (Nat.le_of_ble_eq_true rfl) ⟨by decide, by decide⟩ ⟨Nat.zero_le _, Nat.zero_le _⟩ dX8_rareKeyword_51 ?_
        refine r_if_eq 62 dX8_rareKeyword_54 (by decide) (fun c54 => ?_) (fun c54 => ?_)
        · have h := Sat_pos c54 h
          refine r_iconst (v := -1) dX8_rareKeyword_62 (by decide) ?_
          exact r_ireturn rfl (by rw [← Sat_eq h]; exact ⟨rfl, rfl⟩) dX8_rareKeyword_63
        · have h := Sat_neg c54 h
          refine r_bipush (v := 11) dX8_rareKeyword_57 (by decide) ?_
          refine r_goto 63 dX8_rareKeyword_59 (by decide) ?_
          exact r_ireturn rfl (by rw [← Sat_eq h]; exact ⟨rfl, rfl⟩) dX8_rareKeyword_63
      · have h := Sat_neg c39 h
        refine r_bipush (v := 10) dX8_rareKeyword_42 (by decide) ?_
        exact r_ireturn rfl (by rw [← Sat_eq h]; exact ⟨rfl, rfl⟩) dX8_rareKeyword_44
    · have h := Sat_neg c24 h
      refine r_bipush (v := 9) dX8_rareKeyword_27 (by decide) ?_
      exact r_ireturn rfl (by rw [← Sat_eq h]; exact ⟨rfl, rfl⟩) dX8_rareKeyword_29
  · have h := Sat_neg c9 h
    refine r_bipush (v := 8) dX8_rareKeyword_12 (by decide) ?_
    exact r_ireturn rfl (by rw [← Sat_eq h]; exact ⟨rfl, rfl⟩) dX8_rareKeyword_14
theorem dX8_keyword_0 : decode cX8_keyword 0 = .ok (.aload_n 0, 1) := by decide +kernel
theorem dX8_keyword_1 : decode cX8_keyword 1 = .ok (.getfield 15, 3) := by decide +kernel
theorem dX8_keyword_4 : decode cX8_keyword 4 = .ok (.ldc 116, 2) := by decide +kernel
theorem dX8_keyword_6 : decode cX8_keyword 6 = .ok (.invokevirtual 118, 3) := by decide +kernel
theorem dX8_keyword_9 : decode cX8_keyword 9 = .ok (.ifCond .eq 5, 3) := by decide +kernel
theorem dX8_keyword_12 : decode cX8_keyword 12 = .ok (.iconst 0, 1) := by decide +kernel
theorem dX8_keyword_13 : decode cX8_keyword 13 = .ok (.ireturn, 1) := by decide +kernel
theorem dX8_keyword_14 : decode cX8_keyword 14 = .ok (.aload_n 0, 1) := by decide +kernel
theorem dX8_keyword_15 : decode cX8_keyword 15 = .ok (.getfield 15, 3) := by decide +kernel
theorem dX8_keyword_18 : decode cX8_keyword 18 = .ok (.ldc 122, 2) := by decide +kernel
theorem dX8_keyword_20 : decode cX8_keyword 20 = .ok (.invokevirtual 118, 3) := by decide +kernel
theorem dX8_keyword_23 : decode cX8_keyword 23 = .ok (.ifCond .eq 5, 3) := by decide +kernel
theorem dX8_keyword_26 : decode cX8_keyword 26 = .ok (.iconst 1, 1) := by decide +kernel
theorem dX8_keyword_27 : decode cX8_keyword 27 = .ok (.ireturn, 1) := by decide +kernel
theorem dX8_keyword_28 : decode cX8_keyword 28 = .ok (.aload_n 0, 1) := by decide +kernel
theorem dX8_keyword_29 : decode cX8_keyword 29 = .ok (.getfield 15, 3) := by decide +kernel
theorem dX8_keyword_32 : decode cX8_keyword 32 = .ok (.ldc 124, 2) := by decide +kernel
theorem dX8_keyword_34 : decode cX8_keyword 34 = .ok (.invokevirtual 118, 3) := by decide +kernel
theorem dX8_keyword_37 : decode cX8_keyword 37 = .ok (.ifCond .eq 5, 3) := by decide +kernel
theorem dX8_keyword_40 : decode cX8_keyword 40 = .ok (.iconst 2, 1) := by decide +kernel
theorem dX8_keyword_41 : decode cX8_keyword 41 = .ok (.ireturn, 1) := by decide +kernel
theorem dX8_keyword_42 : decode cX8_keyword 42 = .ok (.aload_n 0, 1) := by decide +kernel
theorem dX8_keyword_43 : decode cX8_keyword 43 = .ok (.getfield 15, 3) := by decide +kernel
theorem dX8_keyword_46 : decode cX8_keyword 46 = .ok (.ldc 126, 2) := by decide +kernel
theorem dX8_keyword_48 : decode cX8_keyword 48 = .ok (.invokevirtual 118, 3) := by decide +kernel
theorem dX8_keyword_51 : decode cX8_keyword 51 = .ok (.ifCond .eq 5, 3) := by decide +kernel
theorem dX8_keyword_54 : decode cX8_keyword 54 = .ok (.iconst 3, 1) := by decide +kernel
theorem dX8_keyword_55 : decode cX8_keyword 55 = .ok (.ireturn, 1) := by decide +kernel
theorem dX8_keyword_56 : decode cX8_keyword 56 = .ok (.aload_n 0, 1) := by decide +kernel
theorem dX8_keyword_57 : decode cX8_keyword 57 = .ok (.getfield 15, 3) := by decide +kernel
theorem dX8_keyword_60 : decode cX8_keyword 60 = .ok (.ldc 128, 2) := by decide +kernel
theorem dX8_keyword_62 : decode cX8_keyword 62 = .ok (.invokevirtual 118, 3) := by decide +kernel
theorem dX8_keyword_65 : decode cX8_keyword 65 = .ok (.ifCond .eq 5, 3) := by decide +kernel
theorem dX8_keyword_68 : decode cX8_keyword 68 = .ok (.iconst 4, 1) := by decide +kernel
theorem dX8_keyword_69 : decode cX8_keyword 69 = .ok (.ireturn, 1) := by decide +kernel
theorem dX8_keyword_70 : decode cX8_keyword 70 = .ok (.aload_n 0, 1) := by decide +kernel
theorem dX8_keyword_71 : decode cX8_keyword 71 = .ok (.getfield 15, 3) := by decide +kernel
theorem dX8_keyword_74 : decode cX8_keyword 74 = .ok (.ldc 130, 2) := by decide +kernel
theorem dX8_keyword_76 : decode cX8_keyword 76 = .ok (.invokevirtual 118, 3) := by decide +kernel
theorem dX8_keyword_79 : decode cX8_keyword 79 = .ok (.ifCond .eq 5, 3) := by decide +kernel
theorem dX8_keyword_82 : decode cX8_keyword 82 = .ok (.iconst 5, 1) := by decide +kernel
theorem dX8_keyword_83 : decode cX8_keyword 83 = .ok (.ireturn, 1) := by decide +kernel
theorem dX8_keyword_84 : decode cX8_keyword 84 = .ok (.aload_n 0, 1) := by decide +kernel
theorem dX8_keyword_85 : decode cX8_keyword 85 = .ok (.getfield 15, 3) := by decide +kernel
theorem dX8_keyword_88 : decode cX8_keyword 88 = .ok (.ldc 132, 2) := by decide +kernel
theorem dX8_keyword_90 : decode cX8_keyword 90 = .ok (.invokevirtual 118, 3) := by decide +kernel
theorem dX8_keyword_93 : decode cX8_keyword 93 = .ok (.ifCond .eq 6, 3) := by decide +kernel
theorem dX8_keyword_96 : decode cX8_keyword 96 = .ok (.bipush 6, 2) := by decide +kernel
theorem dX8_keyword_98 : decode cX8_keyword 98 = .ok (.ireturn, 1) := by decide +kernel
theorem dX8_keyword_99 : decode cX8_keyword 99 = .ok (.aload_n 0, 1) := by decide +kernel
theorem dX8_keyword_100 : decode cX8_keyword 100 = .ok (.getfield 15, 3) := by decide +kernel
theorem dX8_keyword_103 : decode cX8_keyword 103 = .ok (.ldc 134, 2) := by decide +kernel
theorem dX8_keyword_105 : decode cX8_keyword 105 = .ok (.invokevirtual 118, 3) := by decide +kernel
theorem dX8_keyword_108 : decode cX8_keyword 108 = .ok (.ifCond .eq 6, 3) := by decide +kernel
theorem dX8_keyword_111 : decode cX8_keyword 111 = .ok (.bipush 7, 2) := by decide +kernel
theorem dX8_keyword_113 : decode cX8_keyword 113 = .ok (.ireturn, 1) := by decide +kernel
theorem dX8_keyword_114 : decode cX8_keyword 114 = .ok (.aload_n 0, 1) := by decide +kernel
theorem dX8_keyword_115 : decode cX8_keyword 115 = .ok (.invokevirtual 136, 3) := by decide +kernel
theorem dX8_keyword_118 : decode cX8_keyword 118 = .ok (.ireturn, 1) := by decide +kernel
noncomputable def f_X8_keyword (a0 : Nat) (μ : Mm) : Option Int32 :=
  if (mm_K μ a0).1 = 9 then (gf_P 9 0 a0 μ).bind fun x1 => (f_X6_isWord x1 (mm_S μ 0) μ).bind fun x6 => if x6 = 0 then (gf_P 9 0 a0 μ).bind fun x15 => (f_X6_isWord x15 (mm_S μ 1) μ).bind fun x20 => if x20 = 0 then (gf_P 9 0 a0 μ).bind fun x29 => (f_X6_isWord x29 (mm_S μ 2) μ).bind fun x34 => if x34 = 0 then (gf_P 9 0 a0 μ).bind fun x43 => (f_X6_isWord x43 (mm_S μ 3) μ).bind fun x48 => if x48 = 0 then (gf_P 9 0 a0 μ).bind fun x57 => (f_X6_isWord x57 (mm_S μ 4) μ).bind fun x62 => if x62 = 0 then (gf_P 9 0 a0 μ).bind fun x71 => (f_X6_isWord x71 (mm_S μ 5) μ).bind fun x76 => if x76 = 0 then (gf_P 9 0 a0 μ).bind fun x85 => (f_X6_isWord x85 (mm_S μ 6) μ).bind fun x90 => if x90 = 0 then (gf_P 9 0 a0 μ).bind fun x100 => (f_X6_isWord x100 (mm_S μ 7) μ).bind fun x105 => if x105 = 0 then (f_X8_rareKeyword a0 μ).bind fun x115 => some x115 else some (7 : Int32) else some (6 : Int32) else some (5 : Int32) else some (4 : Int32) else some (3 : Int32) else some (2 : Int32) else some (1 : Int32) else some (0 : Int32) else none
abbrev Rn_X8_keyword (G : Gv) (Q : Option Value → Mm → Prop) (pc : Nat) (lv : List (Nat × Value)) (st : List Value) (μ : Mm) : Prop := Rn G RX8 cX8_keyword 1 (some .int) "keyword" (rmd 6 0 0) (Zm G 0 0 Q) 0 0 pc lv st μ
set_option maxRecDepth 100000 in
set_option maxHeartbeats 4000000 in
theorem m_X8_keyword {G : Gv} (a0 : Nat) (μ : Mm) {r : Int32} (hx : f_X8_keyword a0 μ = some r) : Mt G yX8_keyword cX8_keyword 1 (some .int) 6 0 0 [.ref a0] μ (fun v μ' => v = some (.int r) ∧ μ' = μ) := by
  refine Mt.of (by decide) (Nat.le_of_ble_eq_true rfl) ?_
  show Rn_X8_keyword G (fun v μ' => v = some (.int r) ∧ μ' = μ) 0 [(0, .ref a0)] [] μ
  obtain ⟨_, h⟩ := Sat_ifp (show Sat (f_X8_keyword a0 μ) (fun x => x = r) from ⟨_, hx, rfl⟩)
  refine r_aload_n dX8_keyword_0 0 rfl ?_
  obtain ⟨x1, e1, h⟩ := Sat_bind h
  refine r_getP fk_X8_15 rfl e1 dX8_keyword_1 ?_
  refine r_ldcS 0 (by decide) rfl rfl dX8_keyword_4 ?_
  obtain ⟨x6, e6, h⟩ := Sat_bind h
  refine r_cV (t := 7) [.ref (mm_S μ 0)] [] (m_X6_isWord x1 (mm_S μ 0) μ e6) ck_X6_isWord lk_X8_118 in_X6_isWord se_X6_isWord (kd_of e6) ⟨rfl, by decide, by decide⟩ rfl rfl (Nat.le_of_ble_eq_true rfl) ⟨by decide, by decide⟩ ⟨Nat.zero_le _, Nat.zero_le _⟩ dX8_keyword_6 ?_
  refine r_if_eq 14 dX8_keyword_9 (by decide) (fun c9 => ?_) (fun c9 => ?_)
  · have h := Sat_pos c9 h
    refine r_aload_n dX8_keyword_14 0 rfl ?_
    obtain ⟨x15, e15, h⟩ := Sat_bind h
    refine r_getP fk_X8_15 rfl e15 dX8_keyword_15 ?_
    refine r_ldcS 1 (by decide) rfl rfl dX8_keyword_18 ?_
    obtain ⟨x20, e20, h⟩ := Sat_bind h
    refine r_cV (t := 7) [.ref (mm_S μ 1)] [] (m_X6_isWord x15 (mm_S μ 1) μ e20) ck_X6_isWord lk_X8_118 in_X6_isWord se_X6_isWord (kd_of e20) ⟨rfl, by decide, by decide⟩ rfl rfl (Nat.le_of_ble_eq_true rfl) ⟨by decide, by decide⟩ ⟨Nat.zero_le _, Nat.zero_le _⟩ dX8_keyword_20 ?_
    refine r_if_eq 28 dX8_keyword_23 (by decide) (fun c23 => ?_) (fun c23 => ?_)
    · have h := Sat_pos c23 h
      refine r_aload_n dX8_keyword_28 0 rfl ?_
      obtain ⟨x29, e29, h⟩ := Sat_bind h
      refine r_getP fk_X8_15 rfl e29 dX8_keyword_29 ?_
      refine r_ldcS 2 (by decide) rfl rfl dX8_keyword_32 ?_
      obtain ⟨x34, e34, h⟩ := Sat_bind h
      refine r_cV (t := 7) [.ref (mm_S μ 2)] [] (m_X6_isWord x29 (mm_S μ 2) μ e34) ck_X6_isWord lk_X8_118 in_X6_isWord se_X6_isWord (kd_of e34) ⟨rfl, by decide, by decide⟩ rfl rfl (Nat.le_of_ble_eq_true rfl) ⟨by decide, by decide⟩ ⟨Nat.zero_le _, Nat.zero_le _⟩ dX8_keyword_34 ?_
      refine r_if_eq 42 dX8_keyword_37 (by decide) (fun c37 => ?_) (fun c37 => ?_)
      · have h := Sat_pos c37 h
        refine r_aload_n dX8_keyword_42 0 rfl ?_
        obtain ⟨x43, e43, h⟩ := Sat_bind h
        refine r_getP fk_X8_15 rfl e43 dX8_keyword_43 ?_
        refine r_ldcS 3 (by decide) rfl rfl dX8_keyword_46 ?_
        obtain ⟨x48, e48, h⟩ := Sat_bind h
        refine r_cV (t := 7) [.ref (mm_S μ 3)] [] (m_X6_isWord x43 (mm_S μ 3) μ e48) ck_X6_isWord lk_X8_118 in_X6_isWord se_X6_isWord (kd_of e48) ⟨rfl, by decide, by decide⟩ rfl rfl (Nat.le_of_ble_eq_true rfl) ⟨by decide, by decide⟩ ⟨Nat.zero_le _, Nat.zero_le _⟩ dX8_keyword_48 ?_
        refine r_if_eq 56 dX8_keyword_51 (by decide) (fun c51 => ?_) (fun c51 => ?_)
        · have h := Sat_pos c51 h
          refine r_aload_n dX8_keyword_56 0 rfl ?_
          obtain ⟨x57, e57, h⟩ := Sat_bind h
          refine r_getP fk_X8_15 rfl e57 dX8_keyword_57 ?_
          refine r_ldcS 4 (by decide) rfl rfl dX8_keyword_60 ?_
          obtain ⟨x62, e62, h⟩ := Sat_bind h
          refine r_cV (t := 7) [.ref (mm_S μ 4)] [] (m_X6_isWord x57 (mm_S μ 4) μ e62) ck_X6_isWord lk_X8_118 in_X6_isWord se_X6_isWord (kd_of e62) ⟨rfl, by decide, by decide⟩ rfl rfl (Nat.le_of_ble_eq_true rfl) ⟨by decide, by decide⟩ ⟨Nat.zero_le _, Nat.zero_le _⟩ dX8_keyword_62 ?_
          refine r_if_eq 70 dX8_keyword_65 (by decide) (fun c65 => ?_) (fun c65 => ?_)
          · have h := Sat_pos c65 h
            refine r_aload_n dX8_keyword_70 0 rfl ?_
            obtain ⟨x71, e71, h⟩ := Sat_bind h
            refine r_getP fk_X8_15 rfl e71 dX8_keyword_71 ?_
            refine r_ldcS 5 (by decide) rfl rfl dX8_keyword_74 ?_
            obtain ⟨x76, e76, h⟩ := Sat_bind h
            refine r_cV (t := 7) [.ref (mm_S μ 5)] [] (m_X6_isWord x71 (mm_S μ 5) μ e76) ck_X6_isWord lk_X8_118 in_X6_isWord se_X6_isWord (kd_of e76) ⟨rfl, by decide, by decide⟩ rfl rfl (Nat.le_of_ble_eq_true rfl) ⟨by decide, by decide⟩ ⟨Nat.zero_le _, Nat.zero_le _⟩ dX8_keyword_76 ?_
            refine r_if_eq 84 dX8_keyword_79 (by decide) (fun c79 => ?_) (fun c79 => ?_)
            · have h := Sat_pos c79 h
              refine r_aload_n dX8_keyword_84 0 rfl ?_
              obtain ⟨x85, e85, h⟩ := Sat_bind h
              refine r_getP fk_X8_15 rfl e85 dX8_keyword_85 ?_
              refine r_ldcS 6 (by decide) rfl rfl dX8_keyword_88 ?_
              obtain ⟨x90, e90, h⟩ := Sat_bind h
              refine r_cV (t := 7) [.ref (mm_S μ 6)] [] (m_X6_isWord x85 (mm_S μ 6) μ e90) ck_X6_isWord lk_X8_118 in_X6_isWord se_X6_isWord (kd_of e90) ⟨rfl, by decide, by decide⟩ rfl rfl (Nat.le_of_ble_eq_true rfl) ⟨by decide, by decide⟩ ⟨Nat.zero_le _, Nat.zero_le _⟩ dX8_keyword_90 ?_
              refine r_if_eq 99 dX8_keyword_93 (by decide) (fun c93 => ?_) (fun c93 => ?_)
              · have h := Sat_pos c93 h
                refine r_aload_n dX8_keyword_99 0 rfl ?_
                obtain ⟨x100, e100, h⟩ := Sat_bind h
                refine r_getP fk_X8_15 rfl e100 dX8_keyword_100 ?_
                refine r_ldcS 7 (by decide) rfl rfl dX8_keyword_103 ?_
                obtain ⟨x105, e105, h⟩ := Sat_bind h
                refine r_cV (t := 7) [.ref (mm_S μ 7)] [] (m_X6_isWord x100 (mm_S μ 7) μ e105) ck_X6_isWord lk_X8_118 in_X6_isWord se_X6_isWord (kd_of e105) ⟨rfl, by decide, by decide⟩ rfl rfl (Nat.le_of_ble_eq_true rfl) ⟨by decide, by decide⟩ ⟨Nat.zero_le _, Nat.zero_le _⟩ dX8_keyword_105 ?_
                refine r_if_eq 114 dX8_keyword_108 (by decide) (fun c108 => ?_) (fun c108 => ?_)
                · have h := Sat_pos c108 h
                  refine r_aload_n dX8_keyword_114 0 rfl ?_
                  obtain ⟨x115, e115, h⟩ := Sat_bind h
                  refine r_cV (t := 9) [] [] (m_X8_rareKeyword a0 μ e115) ck_X8_rareKeyword lk_X8_136 in_X8_rareKeyword se_X8_rareKeyword (kd_of e115) ⟨rfl, by decide, by decide⟩ rfl rfl (Nat.le_of_ble_eq_true rfl) ⟨by decide, by decide⟩ ⟨Nat.zero_le _, Nat.zero_le _⟩ dX8_keyword_115 ?_
                  exact r_ireturn rfl (by rw [← Sat_eq h]; exact ⟨rfl, rfl⟩) dX8_keyword_118
                · have h := Sat_neg c108 h
                  refine r_bipush (v := 7) dX8_keyword_111 (by decide) ?_
                  exact r_ireturn rfl (by rw [← Sat_eq h]; exact ⟨rfl, rfl⟩) dX8_keyword_113
              · have h := Sat_neg c93 h
                refine r_bipush (v := 6) dX8_keyword_96 (by decide) ?_
                exact r_ireturn rfl (by rw [← Sat_eq h]; exact ⟨rfl, rfl⟩) dX8_keyword_98
            · have h := Sat_neg c79 h
              refine r_iconst (v := 5) dX8_keyword_82 (by decide) ?_
              exact r_ireturn rfl (by rw [← Sat_eq h]; exact ⟨rfl, rfl⟩) dX8_keyword_83
          · have h := Sat_neg c65 h
            refine r_iconst (v := 4) dX8_keyword_68 (by decide) ?_
            exact r_ireturn rfl (by rw [← Sat_eq h]; exact ⟨rfl, rfl⟩) dX8_keyword_69
        · have h := Sat_neg c51 h
          refine r_iconst (v := 3) dX8_keyword_54 (by decide) ?_
          exact r_ireturn rfl (by rw [← Sat_eq h]; exact ⟨rfl, rfl⟩) dX8_keyword_55
      · have h := Sat_neg c37 h
        refine r_iconst (v := 2) dX8_keyword_40 (by decide) ?_
        exact r_ireturn rfl (by rw [← Sat_eq h]; exact ⟨rfl, rfl⟩) dX8_keyword_41
    · have h := Sat_neg c23 h
      refine r_iconst (v := 1) dX8_keyword_26 (by decide) ?_
      exact r_ireturn rfl (by rw [← Sat_eq h]; exact ⟨rfl, rfl⟩) dX8_keyword_27
  · have h := Sat_neg c9 h
    refine r_iconst (v := 0) dX8_keyword_12 (by decide) ?_
    exact r_ireturn rfl (by rw [← Sat_eq h]; exact ⟨rfl, rfl⟩) dX8_keyword_13
theorem dX8_readMark_0 : decode cX8_readMark 0 = .ok (.aload_n 0, 1) := by decide +kernel
theorem dX8_readMark_1 : decode cX8_readMark 1 = .ok (.getfield 15, 3) := by decide +kernel
theorem dX8_readMark_4 : decode cX8_readMark 4 = .ok (.invokevirtual 39, 3) := by decide +kernel
theorem dX8_readMark_7 : decode cX8_readMark 7 = .ok (.aload_n 0, 1) := by decide +kernel
theorem dX8_readMark_8 : decode cX8_readMark 8 = .ok (.getfield 15, 3) := by decide +kernel
theorem dX8_readMark_11 : decode cX8_readMark 11 = .ok (.getfield 44, 3) := by decide +kernel
theorem dX8_readMark_14 : decode cX8_readMark 14 = .ok (.iconst 3, 1) := by decide +kernel
theorem dX8_readMark_15 : decode cX8_readMark 15 = .ok (.if_icmp .eq 11, 3) := by decide +kernel
theorem dX8_readMark_18 : decode cX8_readMark 18 = .ok (.aload_n 0, 1) := by decide +kernel
theorem dX8_readMark_19 : decode cX8_readMark 19 = .ok (.iconst 1, 1) := by decide +kernel
theorem dX8_readMark_20 : decode cX8_readMark 20 = .ok (.invokevirtual 68, 3) := by decide +kernel
theorem dX8_readMark_23 : decode cX8_readMark 23 = .ok (.ifCond .eq 7, 3) := by decide +kernel
theorem dX8_readMark_26 : decode cX8_readMark 26 = .ok (.iconst 1, 1) := by decide +kernel
theorem dX8_readMark_27 : decode cX8_readMark 27 = .ok (.goto 4, 3) := by decide +kernel
theorem dX8_readMark_30 : decode cX8_readMark 30 = .ok (.iconst 0, 1) := by decide +kernel
theorem dX8_readMark_31 : decode cX8_readMark 31 = .ok (.ireturn, 1) := by decide +kernel
noncomputable def f_X8_readMark_J26  (μ : Mm) : Option (Int32 × Mm) :=
  some ((1 : Int32), μ)
noncomputable def f_X8_readMark (a0 : Nat) (μ : Mm) : Option (Int32 × Mm) :=
  if (mm_K μ a0).1 = 9 then (gf_P 9 0 a0 μ).bind fun x1 => (f_X6_advance x1 μ).bind fun x4 => (gf_P 9 0 a0 x4).bind fun x8 => (gf_I 7 2 x8 x4).bind fun x11 => if x11 = (3 : Int32) then f_X8_readMark_J26 x4 else (f_X8_fail a0 (1 : Int32) x4).bind fun x20 => if x20.1 = 0 then some ((0 : Int32), x20.2) else f_X8_readMark_J26 x20.2 else none
abbrev Rn_X8_readMark (G : Gv) (Q : Option Value → Mm → Prop) (pc : Nat) (lv : List (Nat × Value)) (st : List Value) (μ : Mm) : Prop := Rn G RX8 cX8_readMark 1 (some .boolean) "readMark" (rmd 3 0 0) (Zm G 0 0 Q) 0 0 pc lv st μ
set_option maxRecDepth 100000 in
set_option maxHeartbeats 4000000 in
theorem m_X8_readMark {G : Gv} (a0 : Nat) (μ : Mm) {r : (Int32 × Mm)} (hx : f_X8_readMark a0 μ = some r) : Mt G yX8_readMark cX8_readMark 1 (some .boolean) 3 0 0 [.ref a0] μ (fun v μ' => v = some (.int r.1) ∧ μ' = r.2) := by
  refine Mt.of (by decide) (Nat.le_of_ble_eq_true rfl) ?_
  show Rn_X8_readMark G (fun v μ' => v = some (.int r.1) ∧ μ' = r.2) 0 [(0, .ref a0)] [] μ
  obtain ⟨_, h⟩ := Sat_ifp (show Sat (f_X8_readMark a0 μ) (fun x => x = r) from ⟨_, hx, rfl⟩)
  have J26 : ∀ (μ_26 : Mm), Sat (f_X8_readMark_J26 μ_26) (fun x => x = r) → Rn_X8_readMark G (fun v μ' => v = some (.int r.1) ∧ μ' = r.2) 26 [] [] μ_26 := by
    intro μ_26 h
    refine r_iconst (v := 1) dX8_readMark_26 (by decide) ?_
    refine r_goto 31 dX8_readMark_27 (by decide) ?_
    exact r_zreturn rfl (by decide) (by rw [← Sat_eq h]; exact ⟨rfl, rfl⟩) dX8_readMark_31
  refine r_aload_n dX8_readMark_0 0 rfl ?_
  obtain ⟨x1, e1, h⟩ := Sat_bind h
  refine r_getP fk_X8_15 rfl e1 dX8_readMark_1 ?_
  obtain ⟨x4, e4, h⟩ := Sat_bind h
  refine r_cV (t := 7) [] [] (m_X6_advance x1 μ e4) ck_X6_advance lk_X8_39 in_X6_advance se_X6_advance (kd_of e4) ⟨rfl, by decide, by decide⟩ rfl rfl (Nat.le_of_ble_eq_true rfl) ⟨by decide, by decide⟩ ⟨Nat.zero_le _, Nat.zero_le _⟩ dX8_readMark_4 ?_
  refine r_aload_n dX8_readMark_7 0 rfl ?_
  obtain ⟨x8, e8, h⟩ := Sat_bind h
  refine r_getP fk_X8_15 rfl e8 dX8_readMark_8 ?_
  obtain ⟨x11, e11, h⟩ := Sat_bind h
  refine r_getI fk_X8_44 rfl e11 dX8_readMark_11 ?_
  refine r_iconst (v := 3) dX8_readMark_14 (by decide) ?_
  refine r_icmp_eq 26 dX8_readMark_15 (by decide) (fun c15 => ?_) (fun c15 => ?_)
  · have h := Sat_pos c15 h
    exact r_sub [] rfl (J26 x4 h)
  · have h := Sat_neg c15 h
    refine r_aload_n dX8_readMark_18 0 rfl ?_
    refine r_iconst (v := 1) dX8_readMark_19 (by decide) ?_
    obtain ⟨x20, e20, h⟩ := Sat_bind h
    refine r_cV (t := 9) [.int (1 : Int32)] [] (m_X8_fail a0 (1 : Int32) x4 e20) ck_X8_fail lk_X8_68 in_X8_fail se_X8_fail (kd_of e20) ⟨rfl, by decide, by decide⟩ rfl rfl (Nat.le_of_ble_eq_true rfl) ⟨by decide, by decide⟩ ⟨Nat.zero_le _, Nat.zero_le _⟩ dX8_readMark_20 ?_
    refine r_if_eq 30 dX8_readMark_23 (by decide) (fun c23 => ?_) (fun c23 => ?_)
    · have h := Sat_pos c23 h
      refine r_iconst (v := 0) dX8_readMark_30 (by decide) ?_
      exact r_zreturn rfl (by decide) (by rw [← Sat_eq h]; exact ⟨rfl, rfl⟩) dX8_readMark_31
    · have h := Sat_neg c23 h
      exact r_sub [] rfl (J26 x20.2 h)
theorem dX7_personOf_0 : decode cX7_personOf 0 = .ok (.iconst 0, 1) := by decide +kernel
theorem dX7_personOf_1 : decode cX7_personOf 1 = .ok (.istore_n 3, 1) := by decide +kernel
theorem dX7_personOf_2 : decode cX7_personOf 2 = .ok (.iload_n 3, 1) := by decide +kernel
theorem dX7_personOf_3 : decode cX7_personOf 3 = .ok (.aload_n 0, 1) := by decide +kernel
theorem dX7_personOf_4 : decode cX7_personOf 4 = .ok (.getfield 50, 3) := by decide +kernel
theorem dX7_personOf_7 : decode cX7_personOf 7 = .ok (.if_icmp .ge 22, 3) := by decide +kernel
theorem dX7_personOf_10 : decode cX7_personOf 10 = .ok (.aload_n 0, 1) := by decide +kernel
theorem dX7_personOf_11 : decode cX7_personOf 11 = .ok (.getfield 9, 3) := by decide +kernel
theorem dX7_personOf_14 : decode cX7_personOf 14 = .ok (.iload_n 3, 1) := by decide +kernel
theorem dX7_personOf_15 : decode cX7_personOf 15 = .ok (.laload, 1) := by decide +kernel
theorem dX7_personOf_16 : decode cX7_personOf 16 = .ok (.lload_n 1, 1) := by decide +kernel
theorem dX7_personOf_17 : decode cX7_personOf 17 = .ok (.lcmp, 1) := by decide +kernel
theorem dX7_personOf_18 : decode cX7_personOf 18 = .ok (.ifCond .ne 5, 3) := by decide +kernel
theorem dX7_personOf_21 : decode cX7_personOf 21 = .ok (.iload_n 3, 1) := by decide +kernel
theorem dX7_personOf_22 : decode cX7_personOf 22 = .ok (.ireturn, 1) := by decide +kernel
theorem dX7_personOf_23 : decode cX7_personOf 23 = .ok (.iinc 3 1, 3) := by decide +kernel
theorem dX7_personOf_26 : decode cX7_personOf 26 = .ok (.goto (-24), 3) := by decide +kernel
theorem dX7_personOf_29 : decode cX7_personOf 29 = .ok (.iconst (-1), 1) := by decide +kernel
theorem dX7_personOf_30 : decode cX7_personOf 30 = .ok (.ireturn, 1) := by decide +kernel
noncomputable def f_X7_personOf_L2 (a0 : Nat) (l1 : Int64) (μ : Mm) (s2 : Int32) : Option ((Int32) ⊕ ((Int32) ⊕ (Unit))) :=
  (gf_I 8 9 a0 μ).bind fun x4 => if x4 ≤ s2 then some (.inr (.inr ())) else (gf_P 8 0 a0 μ).bind fun x11 => (ga_L x11 s2 μ).bind fun x15 => if (lg_cmp x15 l1) = 0 then some (.inr (.inl s2)) else (some (s2 + (1 : Int32))).bind fun v23 => some (.inl v23)
noncomputable def f_X7_personOf (a0 : Nat) (l1 : Int64) (μ : Mm) : Option Int32 :=
  if (mm_K μ a0).1 = 8 then (whl (f_X7_personOf_L2 a0 l1 μ) (0 : Int32)).bind (sm (fun b2 => some b2) (fun b2 => some (-1 : Int32))) else none
abbrev Rn_X7_personOf (G : Gv) (Q : Option Value → Mm → Prop) (pc : Nat) (lv : List (Nat × Value)) (st : List Value) (μ : Mm) : Prop := Rn G RX7 cX7_personOf 4 (some .int) "personOf" (rmd 0 0 0) (Zm G 0 0 Q) 0 0 pc lv st μ
set_option maxRecDepth 100000 in
set_option maxHeartbeats 4000000 in
theorem m_X7_personOf {G : Gv} (a0 : Nat) (l1 : Int64) (μ : Mm) {r : Int32} (hx : f_X7_personOf a0 l1 μ = some r) : Mt G yX7_personOf cX7_personOf 4 (some .int) 0 0 0 [.ref a0, .long l1] μ (fun v μ' => v = some (.int r) ∧ μ' = μ) := by
  refine Mt.of (by decide) (Nat.le_of_ble_eq_true rfl) ?_
  show Rn_X7_personOf G (fun v μ' => v = some (.int r) ∧ μ' = μ) 0 [(0, .ref a0), (1, .long l1)] [] μ
  obtain ⟨_, h⟩ := Sat_ifp (show Sat (f_X7_personOf a0 l1 μ) (fun x => x = r) from ⟨_, hx, rfl⟩)
  refine r_iconst (v := 0) dX7_personOf_0 (by decide) ?_
  refine r_istore_n (lv' := [(3, .int (0 : Int32)), (0, .ref a0), (1, .long l1)]) dX7_personOf_1 rfl (by decide) rfl ?_
  refine r_sub (lv' := [(0, .ref a0), (1, .long l1), (3, .int (0 : Int32))]) [1, 2, 0] rfl ?_
  refine whl_K (s0 := ((0 : Int32) : Int32)) (RR := fun (s2 : Int32) => Rn_X7_personOf G (fun v μ' => v = some (.int r) ∧ μ' = μ) 2 [(0, .ref a0), (1, .long l1), (3, .int s2)] [] μ) ?_ (Sat_bindK h)
  intro s2 K2 hI2 hX2 h
  refine r_iload_n dX7_personOf_2 2 rfl ?_
  refine r_aload_n dX7_personOf_3 0 rfl ?_
  obtain ⟨x4, e4, h⟩ := Sat_bind h
  refine r_getI fk_X7_50 rfl e4 dX7_personOf_4 ?_
  refine r_icmp_ge 29 dX7_personOf_7 (by decide) (fun c7 => ?_) (fun c7 => ?_)
  · have h := Sat_pos c7 h
    have h := hX2 _ (Sat_some h)
    refine r_iconst (v := -1) dX7_personOf_29 (by decide) ?_
    exact r_ireturn rfl (by rw [← Sat_eq h]; exact ⟨rfl, rfl⟩) dX7_personOf_30
  · have h := Sat_neg c7 h
    refine r_aload_n dX7_personOf_10 0 rfl ?_
    obtain ⟨x11, e11, h⟩ := Sat_bind h
    refine r_getP fk_X7_9 rfl e11 dX7_personOf_11 ?_
    refine r_iload_n dX7_personOf_14 2 rfl ?_
    obtain ⟨x15, e15, h⟩ := Sat_bind h
    refine r_laload e15 dX7_personOf_15 ?_
    refine r_lload_n dX7_personOf_16 1 rfl ?_
    refine r_lcmp dX7_personOf_17 ?_
    refine r_if_ne 23 dX7_personOf_18 (by decide) (fun c18 => ?_) (fun c18 => ?_)
    · have h := Sat_neg c18 h
      obtain ⟨v23, e23, h⟩ := Sat_bind h
      refine r_iinc (j := 2) (v := v23) (lv' := [(3, .int v23), (0, .ref a0), (1, .long l1)]) dX7_personOf_23 rfl (iinc_v e23 (by decide)) (by decide) rfl ?_
      refine r_goto 2 dX7_personOf_26 (by decide) ?_
      exact r_sub [1, 2, 0] rfl (hI2 _ (Sat_some h))
    · have h := Sat_pos c18 h
      have h := hX2 _ (Sat_some h)
      refine r_iload_n dX7_personOf_21 2 rfl ?_
      exact r_ireturn rfl (by rw [← Sat_eq h]; exact ⟨rfl, rfl⟩) dX7_personOf_22
theorem dX8_readNamed_0 : decode cX8_readNamed 0 = .ok (.aload_n 0, 1) := by decide +kernel
theorem dX8_readNamed_1 : decode cX8_readNamed 1 = .ok (.getfield 15, 3) := by decide +kernel
theorem dX8_readNamed_4 : decode cX8_readNamed 4 = .ok (.invokevirtual 39, 3) := by decide +kernel
theorem dX8_readNamed_7 : decode cX8_readNamed 7 = .ok (.aload_n 0, 1) := by decide +kernel
theorem dX8_readNamed_8 : decode cX8_readNamed 8 = .ok (.getfield 15, 3) := by decide +kernel
theorem dX8_readNamed_11 : decode cX8_readNamed 11 = .ok (.getfield 44, 3) := by decide +kernel
theorem dX8_readNamed_14 : decode cX8_readNamed 14 = .ok (.iconst 1, 1) := by decide +kernel
theorem dX8_readNamed_15 : decode cX8_readNamed 15 = .ok (.if_icmp .eq 11, 3) := by decide +kernel
theorem dX8_readNamed_18 : decode cX8_readNamed 18 = .ok (.aload_n 0, 1) := by decide +kernel
theorem dX8_readNamed_19 : decode cX8_readNamed 19 = .ok (.iconst 1, 1) := by decide +kernel
theorem dX8_readNamed_20 : decode cX8_readNamed 20 = .ok (.invokevirtual 68, 3) := by decide +kernel
theorem dX8_readNamed_23 : decode cX8_readNamed 23 = .ok (.pop, 1) := by decide +kernel
theorem dX8_readNamed_24 : decode cX8_readNamed 24 = .ok (.iconst (-1), 1) := by decide +kernel
theorem dX8_readNamed_25 : decode cX8_readNamed 25 = .ok (.ireturn, 1) := by decide +kernel
theorem dX8_readNamed_26 : decode cX8_readNamed 26 = .ok (.aload_n 0, 1) := by decide +kernel
theorem dX8_readNamed_27 : decode cX8_readNamed 27 = .ok (.getfield 19, 3) := by decide +kernel
theorem dX8_readNamed_30 : decode cX8_readNamed 30 = .ok (.aload_n 0, 1) := by decide +kernel
theorem dX8_readNamed_31 : decode cX8_readNamed 31 = .ok (.getfield 15, 3) := by decide +kernel
theorem dX8_readNamed_34 : decode cX8_readNamed 34 = .ok (.getfield 164, 3) := by decide +kernel
theorem dX8_readNamed_37 : decode cX8_readNamed 37 = .ok (.invokevirtual 168, 3) := by decide +kernel
theorem dX8_readNamed_40 : decode cX8_readNamed 40 = .ok (.istore_n 1, 1) := by decide +kernel
theorem dX8_readNamed_41 : decode cX8_readNamed 41 = .ok (.iload_n 1, 1) := by decide +kernel
theorem dX8_readNamed_42 : decode cX8_readNamed 42 = .ok (.iconst (-1), 1) := by decide +kernel
theorem dX8_readNamed_43 : decode cX8_readNamed 43 = .ok (.if_icmp .ne 9, 3) := by decide +kernel
theorem dX8_readNamed_46 : decode cX8_readNamed 46 = .ok (.aload_n 0, 1) := by decide +kernel
theorem dX8_readNamed_47 : decode cX8_readNamed 47 = .ok (.iconst 5, 1) := by decide +kernel
theorem dX8_readNamed_48 : decode cX8_readNamed 48 = .ok (.invokevirtual 68, 3) := by decide +kernel
theorem dX8_readNamed_51 : decode cX8_readNamed 51 = .ok (.pop, 1) := by decide +kernel
theorem dX8_readNamed_52 : decode cX8_readNamed 52 = .ok (.iload_n 1, 1) := by decide +kernel
theorem dX8_readNamed_53 : decode cX8_readNamed 53 = .ok (.ireturn, 1) := by decide +kernel
noncomputable def f_X8_readNamed (a0 : Nat) (μ : Mm) : Option (Int32 × Mm) :=
  if (mm_K μ a0).1 = 9 then (gf_P 9 0 a0 μ).bind fun x1 => (f_X6_advance x1 μ).bind fun x4 => (gf_P 9 0 a0 x4).bind fun x8 => (gf_I 7 2 x8 x4).bind fun x11 => if x11 = (1 : Int32) then (gf_P 9 1 a0 x4).bind fun x27 => (gf_P 9 0 a0 x4).bind fun x31 => (gf_L 7 6 x31 x4).bind fun x34 => (f_X7_personOf x27 x34 x4).bind fun x37 => if x37 = (-1 : Int32) then (f_X8_fail a0 (5 : Int32) x4).bind fun x48 => some (x37, x48.2) else some (x37, x4) else (f_X8_fail a0 (1 : Int32) x4).bind fun x20 => some ((-1 : Int32), x20.2) else none
abbrev Rn_X8_readNamed (G : Gv) (Q : Option Value → Mm → Prop) (pc : Nat) (lv : List (Nat × Value)) (st : List Value) (μ : Mm) : Prop := Rn G RX8 cX8_readNamed 2 (some .int) "readNamed" (rmd 3 0 0) (Zm G 0 0 Q) 0 0 pc lv st μ
set_option maxRecDepth 100000 in
set_option maxHeartbeats 4000000 in
theorem m_X8_readNamed {G : Gv} (a0 : Nat) (μ : Mm) {r : (Int32 × Mm)} (hx : f_X8_readNamed a0 μ = some r) : Mt G yX8_readNamed cX8_readNamed 2 (some .int) 3 0 0 [.ref a0] μ (fun v μ' => v = some (.int r.1) ∧ μ' = r.2) := by
  refine Mt.of (by decide) (Nat.le_of_ble_eq_true rfl) ?_
  show Rn_X8_readNamed G (fun v μ' => v = some (.int r.1) ∧ μ' = r.2) 0 [(0, .ref a0)] [] μ
  obtain ⟨_, h⟩ := Sat_ifp (show Sat (f_X8_readNamed a0 μ) (fun x => x = r) from ⟨_, hx, rfl⟩)
  refine r_aload_n dX8_readNamed_0 0 rfl ?_
  obtain ⟨x1, e1, h⟩ := Sat_bind h
  refine r_getP fk_X8_15 rfl e1 dX8_readNamed_1 ?_
  obtain ⟨x4, e4, h⟩ := Sat_bind h
  refine r_cV (t := 7) [] [] (m_X6_advance x1 μ e4) ck_X6_advance lk_X8_39 in_X6_advance se_X6_advance (kd_of e4) ⟨rfl, by decide, by decide⟩ rfl rfl (Nat.le_of_ble_eq_true rfl) ⟨by decide, by decide⟩ ⟨Nat.zero_le _, Nat.zero_le _⟩ dX8_readNamed_4 ?_
  refine r_aload_n dX8_readNamed_7 0 rfl ?_
  obtain ⟨x8, e8, h⟩ := Sat_bind h
  refine r_getP fk_X8_15 rfl e8 dX8_readNamed_8 ?_
  obtain ⟨x11, e11, h⟩ := Sat_bind h
  refine r_getI fk_X8_44 rfl e11 dX8_readNamed_11 ?_
  refine r_iconst (v := 1) dX8_readNamed_14 (by decide) ?_
  refine r_icmp_eq 26 dX8_readNamed_15 (by decide) (fun c15 => ?_) (fun c15 => ?_)
  · have h := Sat_pos c15 h
    refine r_aload_n dX8_readNamed_26 0 rfl ?_
    obtain ⟨x27, e27, h⟩ := Sat_bind h
    refine r_getP fk_X8_19 rfl e27 dX8_readNamed_27 ?_
    refine r_aload_n dX8_readNamed_30 0 rfl ?_
    obtain ⟨x31, e31, h⟩ := Sat_bind h
    refine r_getP fk_X8_15 rfl e31 dX8_readNamed_31 ?_
    obtain ⟨x34, e34, h⟩ := Sat_bind h
    refine r_getL fk_X8_164 rfl e34 dX8_readNamed_34 ?_
    obtain ⟨x37, e37, h⟩ := Sat_bind h
    refine r_cV (t := 8) [.long x34] [] (m_X7_personOf x27 x34 x4 e37) ck_X7_personOf lk_X8_168 in_X7_personOf se_X7_personOf (kd_of e37) ⟨rfl, by decide, by decide⟩ rfl rfl (Nat.le_of_ble_eq_true rfl) ⟨by decide, by decide⟩ ⟨Nat.zero_le _, Nat.zero_le _⟩ dX8_readNamed_37 ?_
    refine r_istore_n (lv' := [(1, .int x37), (0, .ref a0)]) dX8_readNamed_40 rfl (by decide) rfl ?_
    refine r_iload_n dX8_readNamed_41 0 rfl ?_
    refine r_iconst (v := -1) dX8_readNamed_42 (by decide) ?_
    refine r_icmp_ne 52 dX8_readNamed_43 (by decide) (fun c43 => ?_) (fun c43 => ?_)
    · have h := Sat_neg c43 h
      refine r_iload_n dX8_readNamed_52 0 rfl ?_
      exact r_ireturn rfl (by rw [← Sat_eq h]; exact ⟨rfl, rfl⟩) dX8_readNamed_53
    · have h := Sat_pos c43 h
      refine r_aload_n dX8_readNamed_46 1 rfl ?_
      refine r_iconst (v := 5) dX8_readNamed_47 (by decide) ?_
      obtain ⟨x48, e48, h⟩ := Sat_bind h
      refine r_cV (t := 9) [.int (5 : Int32)] [] (m_X8_fail a0 (5 : Int32) x4 e48) ck_X8_fail lk_X8_68 in_X8_fail se_X8_fail (kd_of e48) ⟨rfl, by decide, by decide⟩ rfl rfl (Nat.le_of_ble_eq_true rfl) ⟨by decide, by decide⟩ ⟨Nat.zero_le _, Nat.zero_le _⟩ dX8_readNamed_48 ?_
      refine r_pop dX8_readNamed_51 rfl ?_
      refine r_iload_n dX8_readNamed_52 0 rfl ?_
      exact r_ireturn rfl (by rw [← Sat_eq h]; exact ⟨rfl, rfl⟩) dX8_readNamed_53
  · have h := Sat_neg c15 h
    refine r_aload_n dX8_readNamed_18 0 rfl ?_
    refine r_iconst (v := 1) dX8_readNamed_19 (by decide) ?_
    obtain ⟨x20, e20, h⟩ := Sat_bind h
    refine r_cV (t := 9) [.int (1 : Int32)] [] (m_X8_fail a0 (1 : Int32) x4 e20) ck_X8_fail lk_X8_68 in_X8_fail se_X8_fail (kd_of e20) ⟨rfl, by decide, by decide⟩ rfl rfl (Nat.le_of_ble_eq_true rfl) ⟨by decide, by decide⟩ ⟨Nat.zero_le _, Nat.zero_le _⟩ dX8_readNamed_20 ?_
    refine r_pop dX8_readNamed_23 rfl ?_
    refine r_iconst (v := -1) dX8_readNamed_24 (by decide) ?_
    exact r_ireturn rfl (by rw [← Sat_eq h]; exact ⟨rfl, rfl⟩) dX8_readNamed_25
theorem dX8_readDreams_0 : decode cX8_readDreams 0 = .ok (.aload_n 0, 1) := by decide +kernel
theorem dX8_readDreams_1 : decode cX8_readDreams 1 = .ok (.invokevirtual 186, 3) := by decide +kernel
theorem dX8_readDreams_4 : decode cX8_readDreams 4 = .ok (.istore_n 1, 1) := by decide +kernel
theorem dX8_readDreams_5 : decode cX8_readDreams 5 = .ok (.aload_n 0, 1) := by decide +kernel
theorem dX8_readDreams_6 : decode cX8_readDreams 6 = .ok (.getfield 19, 3) := by decide +kernel
theorem dX8_readDreams_9 : decode cX8_readDreams 9 = .ok (.iload_n 1, 1) := by decide +kernel
theorem dX8_readDreams_10 : decode cX8_readDreams 10 = .ok (.invokevirtual 189, 3) := by decide +kernel
theorem dX8_readDreams_13 : decode cX8_readDreams 13 = .ok (.ifCond .ne 5, 3) := by decide +kernel
theorem dX8_readDreams_16 : decode cX8_readDreams 16 = .ok (.iconst 0, 1) := by decide +kernel
theorem dX8_readDreams_17 : decode cX8_readDreams 17 = .ok (.ireturn, 1) := by decide +kernel
theorem dX8_readDreams_18 : decode cX8_readDreams 18 = .ok (.aload_n 0, 1) := by decide +kernel
theorem dX8_readDreams_19 : decode cX8_readDreams 19 = .ok (.getfield 19, 3) := by decide +kernel
theorem dX8_readDreams_22 : decode cX8_readDreams 22 = .ok (.iload_n 1, 1) := by decide +kernel
theorem dX8_readDreams_23 : decode cX8_readDreams 23 = .ok (.invokevirtual 192, 3) := by decide +kernel
theorem dX8_readDreams_26 : decode cX8_readDreams 26 = .ok (.ifCond .eq 9, 3) := by decide +kernel
theorem dX8_readDreams_29 : decode cX8_readDreams 29 = .ok (.aload_n 0, 1) := by decide +kernel
theorem dX8_readDreams_30 : decode cX8_readDreams 30 = .ok (.iconst 5, 1) := by decide +kernel
theorem dX8_readDreams_31 : decode cX8_readDreams 31 = .ok (.invokevirtual 68, 3) := by decide +kernel
theorem dX8_readDreams_34 : decode cX8_readDreams 34 = .ok (.ireturn, 1) := by decide +kernel
theorem dX8_readDreams_35 : decode cX8_readDreams 35 = .ok (.aload_n 0, 1) := by decide +kernel
theorem dX8_readDreams_36 : decode cX8_readDreams 36 = .ok (.getfield 19, 3) := by decide +kernel
theorem dX8_readDreams_39 : decode cX8_readDreams 39 = .ok (.getfield 195, 3) := by decide +kernel
theorem dX8_readDreams_42 : decode cX8_readDreams 42 = .ok (.iload_n 1, 1) := by decide +kernel
theorem dX8_readDreams_43 : decode cX8_readDreams 43 = .ok (.iaload, 1) := by decide +kernel
theorem dX8_readDreams_44 : decode cX8_readDreams 44 = .ok (.iconst (-1), 1) := by decide +kernel
theorem dX8_readDreams_45 : decode cX8_readDreams 45 = .ok (.if_icmp .eq 9, 3) := by decide +kernel
theorem dX8_readDreams_48 : decode cX8_readDreams 48 = .ok (.aload_n 0, 1) := by decide +kernel
theorem dX8_readDreams_49 : decode cX8_readDreams 49 = .ok (.iconst 3, 1) := by decide +kernel
theorem dX8_readDreams_50 : decode cX8_readDreams 50 = .ok (.invokevirtual 68, 3) := by decide +kernel
theorem dX8_readDreams_53 : decode cX8_readDreams 53 = .ok (.ireturn, 1) := by decide +kernel
theorem dX8_readDreams_54 : decode cX8_readDreams 54 = .ok (.aload_n 0, 1) := by decide +kernel
theorem dX8_readDreams_55 : decode cX8_readDreams 55 = .ok (.invokevirtual 186, 3) := by decide +kernel
theorem dX8_readDreams_58 : decode cX8_readDreams 58 = .ok (.istore_n 2, 1) := by decide +kernel
theorem dX8_readDreams_59 : decode cX8_readDreams 59 = .ok (.aload_n 0, 1) := by decide +kernel
theorem dX8_readDreams_60 : decode cX8_readDreams 60 = .ok (.getfield 19, 3) := by decide +kernel
theorem dX8_readDreams_63 : decode cX8_readDreams 63 = .ok (.iload_n 2, 1) := by decide +kernel
theorem dX8_readDreams_64 : decode cX8_readDreams 64 = .ok (.invokevirtual 189, 3) := by decide +kernel
theorem dX8_readDreams_67 : decode cX8_readDreams 67 = .ok (.ifCond .ne 5, 3) := by decide +kernel
theorem dX8_readDreams_70 : decode cX8_readDreams 70 = .ok (.iconst 0, 1) := by decide +kernel
theorem dX8_readDreams_71 : decode cX8_readDreams 71 = .ok (.ireturn, 1) := by decide +kernel
theorem dX8_readDreams_72 : decode cX8_readDreams 72 = .ok (.aload_n 0, 1) := by decide +kernel
theorem dX8_readDreams_73 : decode cX8_readDreams 73 = .ok (.getfield 19, 3) := by decide +kernel
theorem dX8_readDreams_76 : decode cX8_readDreams 76 = .ok (.iload_n 2, 1) := by decide +kernel
theorem dX8_readDreams_77 : decode cX8_readDreams 77 = .ok (.invokevirtual 192, 3) := by decide +kernel
theorem dX8_readDreams_80 : decode cX8_readDreams 80 = .ok (.ifCond .eq 9, 3) := by decide +kernel
theorem dX8_readDreams_83 : decode cX8_readDreams 83 = .ok (.aload_n 0, 1) := by decide +kernel
theorem dX8_readDreams_84 : decode cX8_readDreams 84 = .ok (.iconst 5, 1) := by decide +kernel
theorem dX8_readDreams_85 : decode cX8_readDreams 85 = .ok (.invokevirtual 68, 3) := by decide +kernel
theorem dX8_readDreams_88 : decode cX8_readDreams 88 = .ok (.ireturn, 1) := by decide +kernel
theorem dX8_readDreams_89 : decode cX8_readDreams 89 = .ok (.iload_n 2, 1) := by decide +kernel
theorem dX8_readDreams_90 : decode cX8_readDreams 90 = .ok (.iload_n 1, 1) := by decide +kernel
theorem dX8_readDreams_91 : decode cX8_readDreams 91 = .ok (.if_icmp .eq 17, 3) := by decide +kernel
theorem dX8_readDreams_94 : decode cX8_readDreams 94 = .ok (.aload_n 0, 1) := by decide +kernel
theorem dX8_readDreams_95 : decode cX8_readDreams 95 = .ok (.getfield 19, 3) := by decide +kernel
theorem dX8_readDreams_98 : decode cX8_readDreams 98 = .ok (.getfield 199, 3) := by decide +kernel
theorem dX8_readDreams_101 : decode cX8_readDreams 101 = .ok (.iload_n 2, 1) := by decide +kernel
theorem dX8_readDreams_102 : decode cX8_readDreams 102 = .ok (.ishr, 1) := by decide +kernel
theorem dX8_readDreams_103 : decode cX8_readDreams 103 = .ok (.iconst 1, 1) := by decide +kernel
theorem dX8_readDreams_104 : decode cX8_readDreams 104 = .ok (.iand, 1) := by decide +kernel
theorem dX8_readDreams_105 : decode cX8_readDreams 105 = .ok (.ifCond .eq 9, 3) := by decide +kernel
theorem dX8_readDreams_108 : decode cX8_readDreams 108 = .ok (.aload_n 0, 1) := by decide +kernel
theorem dX8_readDreams_109 : decode cX8_readDreams 109 = .ok (.iconst 3, 1) := by decide +kernel
theorem dX8_readDreams_110 : decode cX8_readDreams 110 = .ok (.invokevirtual 68, 3) := by decide +kernel
theorem dX8_readDreams_113 : decode cX8_readDreams 113 = .ok (.ireturn, 1) := by decide +kernel
theorem dX8_readDreams_114 : decode cX8_readDreams 114 = .ok (.aload_n 0, 1) := by decide +kernel
theorem dX8_readDreams_115 : decode cX8_readDreams 115 = .ok (.getfield 19, 3) := by decide +kernel
theorem dX8_readDreams_118 : decode cX8_readDreams 118 = .ok (.getfield 195, 3) := by decide +kernel
theorem dX8_readDreams_121 : decode cX8_readDreams 121 = .ok (.iload_n 1, 1) := by decide +kernel
theorem dX8_readDreams_122 : decode cX8_readDreams 122 = .ok (.iload_n 2, 1) := by decide +kernel
theorem dX8_readDreams_123 : decode cX8_readDreams 123 = .ok (.iastore, 1) := by decide +kernel
theorem dX8_readDreams_124 : decode cX8_readDreams 124 = .ok (.aload_n 0, 1) := by decide +kernel
theorem dX8_readDreams_125 : decode cX8_readDreams 125 = .ok (.getfield 19, 3) := by decide +kernel
theorem dX8_readDreams_128 : decode cX8_readDreams 128 = .ok (.dup, 1) := by decide +kernel
theorem dX8_readDreams_129 : decode cX8_readDreams 129 = .ok (.getfield 199, 3) := by decide +kernel
theorem dX8_readDreams_132 : decode cX8_readDreams 132 = .ok (.iconst 1, 1) := by decide +kernel
theorem dX8_readDreams_133 : decode cX8_readDreams 133 = .ok (.iload_n 2, 1) := by decide +kernel
theorem dX8_readDreams_134 : decode cX8_readDreams 134 = .ok (.ishl, 1) := by decide +kernel
theorem dX8_readDreams_135 : decode cX8_readDreams 135 = .ok (.ior, 1) := by decide +kernel
theorem dX8_readDreams_136 : decode cX8_readDreams 136 = .ok (.putfield 199, 3) := by decide +kernel
theorem dX8_readDreams_139 : decode cX8_readDreams 139 = .ok (.aload_n 0, 1) := by decide +kernel
theorem dX8_readDreams_140 : decode cX8_readDreams 140 = .ok (.invokevirtual 180, 3) := by decide +kernel
theorem dX8_readDreams_143 : decode cX8_readDreams 143 = .ok (.ireturn, 1) := by decide +kernel
noncomputable def f_X8_readDreams_J108 (a0 : Nat) (μ : Mm) : Option (Int32 × Mm) :=
  (f_X8_fail a0 (3 : Int32) μ).bind fun x110 => if x110.1 = 0 ∨ x110.1 = 1 then some (x110.1, x110.2) else none
noncomputable def f_X8_readDreams (a0 : Nat) (μ : Mm) : Option (Int32 × Mm) :=
  if (mm_K μ a0).1 = 9 then (f_X8_readNamed a0 μ).bind fun x1 => (gf_P 9 1 a0 x1.2).bind fun x6 => (f_X7_isPerson x6 x1.1 x1.2).bind fun x10 => if x10 = 0 then some ((0 : Int32), x1.2) else (gf_P 9 1 a0 x1.2).bind fun x19 => (f_X7_isAlone x19 x1.1 x1.2).bind fun x23 => if x23 = 0 then (gf_P 9 1 a0 x1.2).bind fun x36 => (gf_P 8 1 x36 x1.2).bind fun x39 => (ga_I x39 x1.1 x1.2).bind fun x43 => if x43 = (-1 : Int32) then (f_X8_readNamed a0 x1.2).bind fun x55 => (gf_P 9 1 a0 x55.2).bind fun x60 => (f_X7_isPerson x60 x55.1 x55.2).bind fun x64 => if x64 = 0 then some ((0 : Int32), x55.2) else (gf_P 9 1 a0 x55.2).bind fun x73 => (f_X7_isAlone x73 x55.1 x55.2).bind fun x77 => if x77 = 0 then if x55.1 = x1.1 then f_X8_readDreams_J108 a0 x55.2 else (gf_P 9 1 a0 x55.2).bind fun x95 => (gf_I 8 11 x95 x55.2).bind fun x98 => if ((x98 >>> (x55.1 &&& 31)) &&& (1 : Int32)) = 0 then (gf_P 9 1 a0 x55.2).bind fun x115 => (gf_P 8 1 x115 x55.2).bind fun x118 => (pa_I x118 x1.1 x55.1 x55.2).bind fun μ123 => (gf_P 9 1 a0 μ123).bind fun x125 => (gf_I 8 11 x125 μ123).bind fun x129 => (pf_I 8 11 x125 (x129 ||| ((1 : Int32) <<< (x55.1 &&& 31))) μ123).bind fun μ136 => (f_X8_readMark a0 μ136).bind fun x140 => if x140.1 = 0 ∨ x140.1 = 1 then some (x140.1, x140.2) else none else f_X8_readDreams_J108 a0 x55.2 else (f_X8_fail a0 (5 : Int32) x55.2).bind fun x85 => if x85.1 = 0 ∨ x85.1 = 1 then some (x85.1, x85.2) else none else (f_X8_fail a0 (3 : Int32) x1.2).bind fun x50 => if x50.1 = 0 ∨ x50.1 = 1 then some (x50.1, x50.2) else none else (f_X8_fail a0 (5 : Int32) x1.2).bind fun x31 => if x31.1 = 0 ∨ x31.1 = 1 then some (x31.1, x31.2) else none else none
abbrev Rn_X8_readDreams (G : Gv) (Q : Option Value → Mm → Prop) (pc : Nat) (lv : List (Nat × Value)) (st : List Value) (μ : Mm) : Prop := Rn G RX8 cX8_readDreams 3 (some .boolean) "readDreams" (rmd 4 0 0) (Zm G 0 0 Q) 0 0 pc lv st μ
set_option maxRecDepth 100000 in
set_option maxHeartbeats 4000000 in
theorem m_X8_readDreams {G : Gv} (a0 : Nat) (μ : Mm) {r : (Int32 × Mm)} (hx : f_X8_readDreams a0 μ = some r) : Mt G yX8_readDreams cX8_readDreams 3 (some .boolean) 4 0 0 [.ref a0] μ (fun v μ' => v = some (.int r.1) ∧ μ' = r.2) := by
  refine Mt.of (by decide) (Nat.le_of_ble_eq_true rfl) ?_
  show Rn_X8_readDreams G (fun v μ' => v = some (.int r.1) ∧ μ' = r.2) 0 [(0, .ref a0)] [] μ
  obtain ⟨_, h⟩ := Sat_ifp (show Sat (f_X8_readDreams a0 μ) (fun x => x = r) from ⟨_, hx, rfl⟩)
  have J108 : ∀ (a0_108 : Nat) (μ_108 : Mm), Sat (f_X8_readDreams_J108 a0_108 μ_108) (fun x => x = r) → Rn_X8_readDreams G (fun v μ' => v = some (.int r.1) ∧ μ' = r.2) 108 [(0, .ref a0_108)] [] μ_108 := by
    intro a0_108 μ_108 h
    refine r_aload_n dX8_readDreams_108 0 rfl ?_
    refine r_iconst (v := 3) dX8_readDreams_109 (by decide) ?_
    obtain ⟨x110, e110, h⟩ := Sat_bind h
    refine r_cV (t := 9) [.int (3 : Int32)] [] (m_X8_fail a0_108 (3 : Int32) μ_108 e110) ck_X8_fail lk_X8_68 in_X8_fail se_X8_fail (kd_of e110) ⟨rfl, by decide, by decide⟩ rfl rfl (Nat.le_of_ble_eq_true rfl) ⟨by decide, by decide⟩ ⟨Nat.zero_le _, Nat.zero_le _⟩ dX8_readDreams_110 ?_
    obtain ⟨hz, h⟩ := Sat_ifp h
    exact r_zreturn rfl hz (by rw [← Sat_eq h]; exact ⟨rfl, rfl⟩) dX8_readDreams_113
  refine r_aload_n dX8_readDreams_0 0 rfl ?_
  obtain ⟨x1, e1, h⟩ := Sat_bind h
  refine r_cV (t := 9) [] [] (m_X8_readNamed a0 μ e1) ck_X8_readNamed lk_X8_186 in_X8_readNamed se_X8_readNamed (kd_of e1) ⟨rfl, by decide, by decide⟩ rfl rfl (Nat.le_of_ble_eq_true rfl) ⟨by decide, by decide⟩ ⟨Nat.zero_le _, Nat.zero_le _⟩ dX8_readDreams_1 ?_
  refine r_istore_n (lv' := [(1, .int x1.1), (0, .ref a0)]) dX8_readDreams_4 rfl (by decide) rfl ?_
  refine r_aload_n dX8_readDreams_5 1 rfl ?_
  obtain ⟨x6, e6, h⟩ := Sat_bind h
  refine r_getP fk_X8_19 rfl e6 dX8_readDreams_6 ?_
  refine r_iload_n dX8_readDreams_9 0 rfl ?_
  obtain ⟨x10, e10, h⟩ := Sat_bind h
  refine r_cV (t := 8) [.int x1.1] [] (m_X7_isPerson x6 x1.1 x1.2 e10) ck_X7_isPerson lk_X8_189 in_X7_isPerson se_X7_isPerson (kd_of e10) ⟨rfl, by decide, by decide⟩ rfl rfl (Nat.le_of_ble_eq_true rfl) ⟨by decide, by decide⟩ ⟨Nat.zero_le _, Nat.zero_le _⟩ dX8_readDreams_10 ?_
  refine r_if_ne 18 dX8_readDreams_13 (by decide) (fun c13 => ?_) (fun c13 => ?_)
  · have h := Sat_neg c13 h
    refine r_aload_n dX8_readDreams_18 1 rfl ?_
    obtain ⟨x19, e19, h⟩ := Sat_bind h
    refine r_getP fk_X8_19 rfl e19 dX8_readDreams_19 ?_
    refine r_iload_n dX8_readDreams_22 0 rfl ?_
    obtain ⟨x23, e23, h⟩ := Sat_bind h
    refine r_cV (t := 8) [.int x1.1] [] (m_X7_isAlone x19 x1.1 x1.2 e23) ck_X7_isAlone lk_X8_192 in_X7_isAlone se_X7_isAlone (kd_of e23) ⟨rfl, by decide, by decide⟩ rfl rfl (Nat.le_of_ble_eq_true rfl) ⟨by decide, by decide⟩ ⟨Nat.zero_le _, Nat.zero_le _⟩ dX8_readDreams_23 ?_
    refine r_if_eq 35 dX8_readDreams_26 (by decide) (fun c26 => ?_) (fun c26 => ?_)
    · have h := Sat_pos c26 h
      refine r_aload_n dX8_readDreams_35 1 rfl ?_
      obtain ⟨x36, e36, h⟩ := Sat_bind h
      refine r_getP fk_X8_19 rfl e36 dX8_readDreams_36 ?_
      obtain ⟨x39, e39, h⟩ := Sat_bind h
      refine r_getP fk_X8_195 rfl e39 dX8_readDreams_39 ?_
      refine r_iload_n dX8_readDreams_42 0 rfl ?_
      obtain ⟨x43, e43, h⟩ := Sat_bind h
      refine r_iaload e43 dX8_readDreams_43 ?_
      refine r_iconst (v := -1) dX8_readDreams_44 (by decide) ?_
      refine r_icmp_eq 54 dX8_readDreams_45 (by decide) (fun c45 => ?_) (fun c45 => ?_)
      · have h := Sat_pos c45 h
        refine r_aload_n dX8_readDreams_54 1 rfl ?_
        obtain ⟨x55, e55, h⟩ := Sat_bind h
        refine r_cV (t := 9) [] [] (m_X8_readNamed a0 x1.2 e55) ck_X8_readNamed lk_X8_186 in_X8_readNamed se_X8_readNamed (kd_of e55) ⟨rfl, by decide, by decide⟩ rfl rfl (Nat.le_of_ble_eq_true rfl) ⟨by decide, by decide⟩ ⟨Nat.zero_le _, Nat.zero_le _⟩ dX8_readDreams_55 ?_
        refine r_istore_n (lv' := [(2, .int x55.1), (1, .int x1.1), (0, .ref a0)]) dX8_readDreams_58 rfl (by decide) rfl ?_
        refine r_aload_n dX8_readDreams_59 2 rfl ?_
        obtain ⟨x60, e60, h⟩ := Sat_bind h
        refine r_getP fk_X8_19 rfl e60 dX8_readDreams_60 ?_
        refine r_iload_n dX8_readDreams_63 0 rfl ?_
        obtain ⟨x64, e64, h⟩ := Sat_bind h
        refine r_cV (t := 8) [.int x55.1] [] (m_X7_isPerson x60 x55.1 x55.2 e64) ck_X7_isPerson lk_X8_189 in_X7_isPerson se_X7_isPerson (kd_of e64) ⟨rfl, by decide, by decide⟩ rfl rfl (Nat.le_of_ble_eq_true rfl) ⟨by decide, by decide⟩ ⟨Nat.zero_le _, Nat.zero_le _⟩ dX8_readDreams_64 ?_
        refine r_if_ne 72 dX8_readDreams_67 (by decide) (fun c67 => ?_) (fun c67 => ?_)
        · have h := Sat_neg c67 h
          refine r_aload_n dX8_readDreams_72 2 rfl ?_
          obtain ⟨x73, e73, h⟩ := Sat_bind h
          refine r_getP fk_X8_19 rfl e73 dX8_readDreams_73 ?_
          refine r_iload_n dX8_readDreams_76 0 rfl ?_
          obtain ⟨x77, e77, h⟩ := Sat_bind h
          refine r_cV (t := 8) [.int x55.1] [] (m_X7_isAlone x73 x55.1 x55.2 e77) ck_X7_isAlone lk_X8_192 in_X7_isAlone se_X7_isAlone (kd_of e77) ⟨rfl, by decide, by decide⟩ rfl rfl (Nat.le_of_ble_eq_true rfl) ⟨by decide, by decide⟩ ⟨Nat.zero_le _, Nat.zero_le _⟩ dX8_readDreams_77 ?_
          refine r_if_eq 89 dX8_readDreams_80 (by decide) (fun c80 => ?_) (fun c80 => ?_)
          · have h := Sat_pos c80 h
            refine r_iload_n dX8_readDreams_89 0 rfl ?_
            refine r_iload_n dX8_readDreams_90 1 rfl ?_
            refine r_icmp_eq 108 dX8_readDreams_91 (by decide) (fun c91 => ?_) (fun c91 => ?_)
            · have h := Sat_pos c91 h
              exact r_sub [2] rfl (J108 a0 x55.2 h)
            · have h := Sat_neg c91 h
              refine r_aload_n dX8_readDreams_94 2 rfl ?_
              obtain ⟨x95, e95, h⟩ := Sat_bind h
              refine r_getP fk_X8_19 rfl e95 dX8_readDreams_95 ?_
              obtain ⟨x98, e98, h⟩ := Sat_bind h
              refine r_getI fk_X8_199 rfl e98 dX8_readDreams_98 ?_
              refine r_iload_n dX8_readDreams_101 0 rfl ?_
              refine r_ishr dX8_readDreams_102 ?_
              refine r_iconst (v := 1) dX8_readDreams_103 (by decide) ?_
              refine r_iand dX8_readDreams_104 ?_
              refine r_if_eq 114 dX8_readDreams_105 (by decide) (fun c105 => ?_) (fun c105 => ?_)
              · have h := Sat_pos c105 h
                refine r_aload_n dX8_readDreams_114 2 rfl ?_
                obtain ⟨x115, e115, h⟩ := Sat_bind h
                refine r_getP fk_X8_19 rfl e115 dX8_readDreams_115 ?_
                obtain ⟨x118, e118, h⟩ := Sat_bind h
                refine r_getP fk_X8_195 rfl e118 dX8_readDreams_118 ?_
                refine r_iload_n dX8_readDreams_121 1 rfl ?_
                refine r_iload_n dX8_readDreams_122 0 rfl ?_
                obtain ⟨μ123, e123, h⟩ := Sat_bind h
                refine r_iastore e123 dX8_readDreams_123 ?_
                refine r_aload_n dX8_readDreams_124 2 rfl ?_
                obtain ⟨x125, e125, h⟩ := Sat_bind h
                refine r_getP fk_X8_19 rfl e125 dX8_readDreams_125 ?_
                refine r_dup dX8_readDreams_128 rfl ?_
                obtain ⟨x129, e129, h⟩ := Sat_bind h
                refine r_getI fk_X8_199 rfl e129 dX8_readDreams_129 ?_
                refine r_iconst (v := 1) dX8_readDreams_132 (by decide) ?_
                refine r_iload_n dX8_readDreams_133 0 rfl ?_
                refine r_ishl dX8_readDreams_134 ?_
                refine r_ior dX8_readDreams_135 ?_
                obtain ⟨μ136, e136, h⟩ := Sat_bind h
                refine r_putI fk_X8_199 rfl rfl e136 dX8_readDreams_136 ?_
                refine r_aload_n dX8_readDreams_139 2 rfl ?_
                obtain ⟨x140, e140, h⟩ := Sat_bind h
                refine r_cV (t := 9) [] [] (m_X8_readMark a0 μ136 e140) ck_X8_readMark lk_X8_180 in_X8_readMark se_X8_readMark (kd_of e140) ⟨rfl, by decide, by decide⟩ rfl rfl (Nat.le_of_ble_eq_true rfl) ⟨by decide, by decide⟩ ⟨Nat.zero_le _, Nat.zero_le _⟩ dX8_readDreams_140 ?_
                obtain ⟨hz, h⟩ := Sat_ifp h
                exact r_zreturn rfl hz (by rw [← Sat_eq h]; exact ⟨rfl, rfl⟩) dX8_readDreams_143
              · have h := Sat_neg c105 h
                exact r_sub [2] rfl (J108 a0 x55.2 h)
          · have h := Sat_neg c80 h
            refine r_aload_n dX8_readDreams_83 2 rfl ?_
            refine r_iconst (v := 5) dX8_readDreams_84 (by decide) ?_
            obtain ⟨x85, e85, h⟩ := Sat_bind h
            refine r_cV (t := 9) [.int (5 : Int32)] [] (m_X8_fail a0 (5 : Int32) x55.2 e85) ck_X8_fail lk_X8_68 in_X8_fail se_X8_fail (kd_of e85) ⟨rfl, by decide, by decide⟩ rfl rfl (Nat.le_of_ble_eq_true rfl) ⟨by decide, by decide⟩ ⟨Nat.zero_le _, Nat.zero_le _⟩ dX8_readDreams_85 ?_
            obtain ⟨hz, h⟩ := Sat_ifp h
            exact r_zreturn rfl hz (by rw [← Sat_eq h]; exact ⟨rfl, rfl⟩) dX8_readDreams_88
        · have h := Sat_pos c67 h
          refine r_iconst (v := 0) dX8_readDreams_70 (by decide) ?_
          exact r_zreturn rfl (by decide) (by rw [← Sat_eq h]; exact ⟨rfl, rfl⟩) dX8_readDreams_71
      · have h := Sat_neg c45 h
        refine r_aload_n dX8_readDreams_48 1 rfl ?_
        refine r_iconst (v := 3) dX8_readDreams_49 (by decide) ?_
        obtain ⟨x50, e50, h⟩ := Sat_bind h
        refine r_cV (t := 9) [.int (3 : Int32)] [] (m_X8_fail a0 (3 : Int32) x1.2 e50) ck_X8_fail lk_X8_68 in_X8_fail se_X8_fail (kd_of e50) ⟨rfl, by decide, by decide⟩ rfl rfl (Nat.le_of_ble_eq_true rfl) ⟨by decide, by decide⟩ ⟨Nat.zero_le _, Nat.zero_le _⟩ dX8_readDreams_50 ?_
        obtain ⟨hz, h⟩ := Sat_ifp h
        exact r_zreturn rfl hz (by rw [← Sat_eq h]; exact ⟨rfl, rfl⟩) dX8_readDreams_53
    · have h := Sat_neg c26 h
      refine r_aload_n dX8_readDreams_29 1 rfl ?_
      refine r_iconst (v := 5) dX8_readDreams_30 (by decide) ?_
      obtain ⟨x31, e31, h⟩ := Sat_bind h
      refine r_cV (t := 9) [.int (5 : Int32)] [] (m_X8_fail a0 (5 : Int32) x1.2 e31) ck_X8_fail lk_X8_68 in_X8_fail se_X8_fail (kd_of e31) ⟨rfl, by decide, by decide⟩ rfl rfl (Nat.le_of_ble_eq_true rfl) ⟨by decide, by decide⟩ ⟨Nat.zero_le _, Nat.zero_le _⟩ dX8_readDreams_31 ?_
      obtain ⟨hz, h⟩ := Sat_ifp h
      exact r_zreturn rfl hz (by rw [← Sat_eq h]; exact ⟨rfl, rfl⟩) dX8_readDreams_34
  · have h := Sat_pos c13 h
    refine r_iconst (v := 0) dX8_readDreams_16 (by decide) ?_
    exact r_zreturn rfl (by decide) (by rw [← Sat_eq h]; exact ⟨rfl, rfl⟩) dX8_readDreams_17
theorem dX2_add_0 : decode cX2_add 0 = .ok (.aload_n 0, 1) := by decide +kernel
theorem dX2_add_1 : decode cX2_add 1 = .ok (.invokevirtual 25, 3) := by decide +kernel
theorem dX2_add_4 : decode cX2_add 4 = .ok (.ifCond .eq 4, 3) := by decide +kernel
theorem dX2_add_7 : decode cX2_add 7 = .ok (.return_, 1) := by decide +kernel
theorem dX2_add_8 : decode cX2_add 8 = .ok (.aload_n 0, 1) := by decide +kernel
theorem dX2_add_9 : decode cX2_add 9 = .ok (.getfield 21, 3) := by decide +kernel
theorem dX2_add_12 : decode cX2_add 12 = .ok (.iconst 4, 1) := by decide +kernel
theorem dX2_add_13 : decode cX2_add 13 = .ok (.imul, 1) := by decide +kernel
theorem dX2_add_14 : decode cX2_add 14 = .ok (.istore 5, 2) := by decide +kernel
theorem dX2_add_16 : decode cX2_add 16 = .ok (.aload_n 0, 1) := by decide +kernel
theorem dX2_add_17 : decode cX2_add 17 = .ok (.getfield 17, 3) := by decide +kernel
theorem dX2_add_20 : decode cX2_add 20 = .ok (.iload 5, 2) := by decide +kernel
theorem dX2_add_22 : decode cX2_add 22 = .ok (.iload_n 1, 1) := by decide +kernel
theorem dX2_add_23 : decode cX2_add 23 = .ok (.iastore, 1) := by decide +kernel
theorem dX2_add_24 : decode cX2_add 24 = .ok (.aload_n 0, 1) := by decide +kernel
theorem dX2_add_25 : decode cX2_add 25 = .ok (.getfield 17, 3) := by decide +kernel
theorem dX2_add_28 : decode cX2_add 28 = .ok (.iload 5, 2) := by decide +kernel
theorem dX2_add_30 : decode cX2_add 30 = .ok (.iconst 1, 1) := by decide +kernel
theorem dX2_add_31 : decode cX2_add 31 = .ok (.iadd, 1) := by decide +kernel
theorem dX2_add_32 : decode cX2_add 32 = .ok (.iload_n 2, 1) := by decide +kernel
theorem dX2_add_33 : decode cX2_add 33 = .ok (.iastore, 1) := by decide +kernel
theorem dX2_add_34 : decode cX2_add 34 = .ok (.aload_n 0, 1) := by decide +kernel
theorem dX2_add_35 : decode cX2_add 35 = .ok (.getfield 17, 3) := by decide +kernel
theorem dX2_add_38 : decode cX2_add 38 = .ok (.iload 5, 2) := by decide +kernel
theorem dX2_add_40 : decode cX2_add 40 = .ok (.iconst 2, 1) := by decide +kernel
theorem dX2_add_41 : decode cX2_add 41 = .ok (.iadd, 1) := by decide +kernel
theorem dX2_add_42 : decode cX2_add 42 = .ok (.iload_n 3, 1) := by decide +kernel
theorem dX2_add_43 : decode cX2_add 43 = .ok (.iastore, 1) := by decide +kernel
theorem dX2_add_44 : decode cX2_add 44 = .ok (.aload_n 0, 1) := by decide +kernel
theorem dX2_add_45 : decode cX2_add 45 = .ok (.getfield 17, 3) := by decide +kernel
theorem dX2_add_48 : decode cX2_add 48 = .ok (.iload 5, 2) := by decide +kernel
theorem dX2_add_50 : decode cX2_add 50 = .ok (.iconst 3, 1) := by decide +kernel
theorem dX2_add_51 : decode cX2_add 51 = .ok (.iadd, 1) := by decide +kernel
theorem dX2_add_52 : decode cX2_add 52 = .ok (.iload 4, 2) := by decide +kernel
theorem dX2_add_54 : decode cX2_add 54 = .ok (.iastore, 1) := by decide +kernel
theorem dX2_add_55 : decode cX2_add 55 = .ok (.aload_n 0, 1) := by decide +kernel
theorem dX2_add_56 : decode cX2_add 56 = .ok (.dup, 1) := by decide +kernel
theorem dX2_add_57 : decode cX2_add 57 = .ok (.getfield 21, 3) := by decide +kernel
theorem dX2_add_60 : decode cX2_add 60 = .ok (.iconst 1, 1) := by decide +kernel
theorem dX2_add_61 : decode cX2_add 61 = .ok (.iadd, 1) := by decide +kernel
theorem dX2_add_62 : decode cX2_add 62 = .ok (.putfield 21, 3) := by decide +kernel
theorem dX2_add_65 : decode cX2_add 65 = .ok (.return_, 1) := by decide +kernel
noncomputable def f_X2_add (a0 : Nat) (l1 : Int32) (l2 : Int32) (l3 : Int32) (l4 : Int32) (μ : Mm) : Option Mm :=
  if (mm_K μ a0).1 = 3 then (f_X2_isFull a0 μ).bind fun x1 => if x1 = 0 then (gf_I 3 1 a0 μ).bind fun x9 => (some (x9 * (4 : Int32))).bind fun v14 => (gf_P 3 0 a0 μ).bind fun x17 => (pa_I x17 v14 l1 μ).bind fun μ23 => (gf_P 3 0 a0 μ23).bind fun x25 => (pa_I x25 (v14 + (1 : Int32)) l2 μ23).bind fun μ33 => (gf_P 3 0 a0 μ33).bind fun x35 => (pa_I x35 (v14 + (2 : Int32)) l3 μ33).bind fun μ43 => (gf_P 3 0 a0 μ43).bind fun x45 => (pa_I x45 (v14 + (3 : Int32)) l4 μ43).bind fun μ54 => (gf_I 3 1 a0 μ54).bind fun x57 => (pf_I 3 1 a0 (x57 + (1 : Int32)) μ54).bind fun μ62 => some μ62 else some μ else none
abbrev Rn_X2_add (G : Gv) (Q : Option Value → Mm → Prop) (pc : Nat) (lv : List (Nat × Value)) (st : List Value) (μ : Mm) : Prop := Rn G RX2 cX2_add 6 none "add" (rmd 1 0 0) (Zm G 0 0 Q) 0 0 pc lv st μ
set_option maxRecDepth 100000 in
set_option maxHeartbeats 4000000 in
theorem m_X2_add {G : Gv} (a0 : Nat) (l1 : Int32) (l2 : Int32) (l3 : Int32) (l4 : Int32) (μ : Mm) {r : Mm} (hx : f_X2_add a0 l1 l2 l3 l4 μ = some r) : Mt G yX2_add cX2_add 6 none 1 0 0 [.ref a0, .int l1, .int l2, .int l3, .int l4] μ (fun v μ' => v = none ∧ μ' = r) := by
  refine Mt.of (by decide) (Nat.le_of_ble_eq_true rfl) ?_
  show Rn_X2_add G (fun v μ' => v = none ∧ μ' = r) 0 [(0, .ref a0), (1, .int l1), (2, .int l2), (3, .int l3), (4, .int l4)] [] μ
  obtain ⟨_, h⟩ := Sat_ifp (show Sat (f_X2_add a0 l1 l2 l3 l4 μ) (fun x => x = r) from ⟨_, hx, rfl⟩)
  refine r_aload_n dX2_add_0 0 rfl ?_
  obtain ⟨x1, e1, h⟩ := Sat_bind h
  refine r_cV (t := 3) [] [] (m_X2_isFull a0 μ e1) ck_X2_isFull lk_X2_25 in_X2_isFull se_X2_isFull (kd_of e1) ⟨rfl, by decide, by decide⟩ rfl rfl (Nat.le_of_ble_eq_true rfl) ⟨by decide, by decide⟩ ⟨Nat.zero_le _, Nat.zero_le _⟩ dX2_add_1 ?_
  refine r_if_eq 8 dX2_add_4 (by decide) (fun c4 => ?_) (fun c4 => ?_)
  · have h := Sat_pos c4 h
    refine r_aload_n dX2_add_8 0 rfl ?_
    obtain ⟨x9, e9, h⟩ := Sat_bind h
    refine r_getI fk_X2_21 rfl e9 dX2_add_9 ?_
    refine r_iconst (v := 4) dX2_add_12 (by decide) ?_
    refine r_imul dX2_add_13 ?_
    obtain ⟨v14, e14, h⟩ := Sat_bind h
    refine r_topi (Option.some.inj e14) ?_
    refine r_istore (lv' := [(5, .int v14), (0, .ref a0), (1, .int l1), (2, .int l2), (3, .int l3), (4, .int l4)]) dX2_add_14 (by decide) rfl ?_
    refine r_aload_n dX2_add_16 1 rfl ?_
    obtain ⟨x17, e17, h⟩ := Sat_bind h
    refine r_getP fk_X2_17 rfl e17 dX2_add_17 ?_
    refine r_iload dX2_add_20 0 rfl ?_
    refine r_iload_n dX2_add_22 2 rfl ?_
    obtain ⟨μ23, e23, h⟩ := Sat_bind h
    refine r_iastore e23 dX2_add_23 ?_
    refine r_aload_n dX2_add_24 1 rfl ?_
    obtain ⟨x25, e25, h⟩ := Sat_bind h
    refine r_getP fk_X2_17 rfl e25 dX2_add_25 ?_
    refine r_iload dX2_add_28 0 rfl ?_
    refine r_iconst (v := 1) dX2_add_30 (by decide) ?_
    refine r_iadd dX2_add_31 ?_
    refine r_iload_n dX2_add_32 3 rfl ?_
    obtain ⟨μ33, e33, h⟩ := Sat_bind h
    refine r_iastore e33 dX2_add_33 ?_
    refine r_aload_n dX2_add_34 1 rfl ?_
    obtain ⟨x35, e35, h⟩ := Sat_bind h
    refine r_getP fk_X2_17 rfl e35 dX2_add_35 ?_
    refine r_iload dX2_add_38 0 rfl ?_
    refine r_iconst (v := 2) dX2_add_40 (by decide) ?_
    refine r_iadd dX2_add_41 ?_
    refine r_iload_n dX2_add_42 4 rfl ?_
    obtain ⟨μ43, e43, h⟩ := Sat_bind h
    refine r_iastore e43 dX2_add_43 ?_
    refine r_aload_n dX2_add_44 1 rfl ?_
    obtain ⟨x45, e45, h⟩ := Sat_bind h
    refine r_getP fk_X2_17 rfl e45 dX2_add_45 ?_
    refine r_iload dX2_add_48 0 rfl ?_
    refine r_iconst (v := 3) dX2_add_50 (by decide) ?_
    refine r_iadd dX2_add_51 ?_
    refine r_iload dX2_add_52 5 rfl ?_
    obtain ⟨μ54, e54, h⟩ := Sat_bind h
    refine r_iastore e54 dX2_add_54 ?_
    refine r_aload_n dX2_add_55 1 rfl ?_
    refine r_dup dX2_add_56 rfl ?_
    obtain ⟨x57, e57, h⟩ := Sat_bind h
    refine r_getI fk_X2_21 rfl e57 dX2_add_57 ?_
    refine r_iconst (v := 1) dX2_add_60 (by decide) ?_
    refine r_iadd dX2_add_61 ?_
    obtain ⟨μ62, e62, h⟩ := Sat_bind h
    refine r_putI fk_X2_21 rfl rfl e62 dX2_add_62 ?_
    exact r_vreturn rfl (by rw [← Sat_eq h]; exact ⟨rfl, rfl⟩) dX2_add_65
  · have h := Sat_neg c4 h
    exact r_vreturn rfl (by rw [← Sat_eq h]; exact ⟨rfl, rfl⟩) dX2_add_7
