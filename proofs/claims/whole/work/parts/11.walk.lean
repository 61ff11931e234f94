theorem dX4_isStill_0 : decode cX4_isStill 0 = .ok (.aload_n 0, 1) := by decide +kernel
theorem dX4_isStill_1 : decode cX4_isStill 1 = .ok (.getfield 98, 3) := by decide +kernel
theorem dX4_isStill_4 : decode cX4_isStill 4 = .ok (.ifCond .ne 10, 3) := by decide +kernel
theorem dX4_isStill_7 : decode cX4_isStill 7 = .ok (.aload_n 0, 1) := by decide +kernel
theorem dX4_isStill_8 : decode cX4_isStill 8 = .ok (.getfield 105, 3) := by decide +kernel
theorem dX4_isStill_11 : decode cX4_isStill 11 = .ok (.ifCond .eq 7, 3) := by decide +kernel
theorem dX4_isStill_14 : decode cX4_isStill 14 = .ok (.iconst 1, 1) := by decide +kernel
theorem dX4_isStill_15 : decode cX4_isStill 15 = .ok (.goto 4, 3) := by decide +kernel
theorem dX4_isStill_18 : decode cX4_isStill 18 = .ok (.iconst 0, 1) := by decide +kernel
theorem dX4_isStill_19 : decode cX4_isStill 19 = .ok (.istore_n 2, 1) := by decide +kernel
theorem dX4_isStill_20 : decode cX4_isStill 20 = .ok (.iconst 0, 1) := by decide +kernel
theorem dX4_isStill_21 : decode cX4_isStill 21 = .ok (.istore_n 3, 1) := by decide +kernel
theorem dX4_isStill_22 : decode cX4_isStill 22 = .ok (.iload_n 2, 1) := by decide +kernel
theorem dX4_isStill_23 : decode cX4_isStill 23 = .ok (.ifCond .eq 50, 3) := by decide +kernel
theorem dX4_isStill_26 : decode cX4_isStill 26 = .ok (.iload_n 3, 1) := by decide +kernel
theorem dX4_isStill_27 : decode cX4_isStill 27 = .ok (.bipush 8, 2) := by decide +kernel
theorem dX4_isStill_29 : decode cX4_isStill 29 = .ok (.if_icmp .ge 44, 3) := by decide +kernel
theorem dX4_isStill_32 : decode cX4_isStill 32 = .ok (.iload_n 1, 1) := by decide +kernel
theorem dX4_isStill_33 : decode cX4_isStill 33 = .ok (.iload_n 3, 1) := by decide +kernel
theorem dX4_isStill_34 : decode cX4_isStill 34 = .ok (.ishr, 1) := by decide +kernel
theorem dX4_isStill_35 : decode cX4_isStill 35 = .ok (.iconst 1, 1) := by decide +kernel
theorem dX4_isStill_36 : decode cX4_isStill 36 = .ok (.iand, 1) := by decide +kernel
theorem dX4_isStill_37 : decode cX4_isStill 37 = .ok (.ifCond .eq 7, 3) := by decide +kernel
theorem dX4_isStill_40 : decode cX4_isStill 40 = .ok (.iconst 1, 1) := by decide +kernel
theorem dX4_isStill_41 : decode cX4_isStill 41 = .ok (.goto 4, 3) := by decide +kernel
theorem dX4_isStill_44 : decode cX4_isStill 44 = .ok (.iconst 0, 1) := by decide +kernel
theorem dX4_isStill_45 : decode cX4_isStill 45 = .ok (.istore 4, 2) := by decide +kernel
theorem dX4_isStill_47 : decode cX4_isStill 47 = .ok (.iload 4, 2) := by decide +kernel
theorem dX4_isStill_49 : decode cX4_isStill 49 = .ok (.ifCond .eq 18, 3) := by decide +kernel
theorem dX4_isStill_52 : decode cX4_isStill 52 = .ok (.aload_n 0, 1) := by decide +kernel
theorem dX4_isStill_53 : decode cX4_isStill 53 = .ok (.getfield 24, 3) := by decide +kernel
theorem dX4_isStill_56 : decode cX4_isStill 56 = .ok (.iload_n 3, 1) := by decide +kernel
theorem dX4_isStill_57 : decode cX4_isStill 57 = .ok (.iaload, 1) := by decide +kernel
theorem dX4_isStill_58 : decode cX4_isStill 58 = .ok (.iload_n 1, 1) := by decide +kernel
theorem dX4_isStill_59 : decode cX4_isStill 59 = .ok (.iconst (-1), 1) := by decide +kernel
theorem dX4_isStill_60 : decode cX4_isStill 60 = .ok (.ixor, 1) := by decide +kernel
theorem dX4_isStill_61 : decode cX4_isStill 61 = .ok (.iand, 1) := by decide +kernel
theorem dX4_isStill_62 : decode cX4_isStill 62 = .ok (.ifCond .eq 5, 3) := by decide +kernel
theorem dX4_isStill_65 : decode cX4_isStill 65 = .ok (.iconst 0, 1) := by decide +kernel
theorem dX4_isStill_66 : decode cX4_isStill 66 = .ok (.ireturn, 1) := by decide +kernel
theorem dX4_isStill_67 : decode cX4_isStill 67 = .ok (.iinc 3 1, 3) := by decide +kernel
theorem dX4_isStill_70 : decode cX4_isStill 70 = .ok (.goto (-48), 3) := by decide +kernel
theorem dX4_isStill_73 : decode cX4_isStill 73 = .ok (.iconst 0, 1) := by decide +kernel
theorem dX4_isStill_74 : decode cX4_isStill 74 = .ok (.istore_n 3, 1) := by decide +kernel
theorem dX4_isStill_75 : decode cX4_isStill 75 = .ok (.aload_n 0, 1) := by decide +kernel
theorem dX4_isStill_76 : decode cX4_isStill 76 = .ok (.getfield 102, 3) := by decide +kernel
theorem dX4_isStill_79 : decode cX4_isStill 79 = .ok (.ifCond .eq 60, 3) := by decide +kernel
theorem dX4_isStill_82 : decode cX4_isStill 82 = .ok (.iload_n 3, 1) := by decide +kernel
theorem dX4_isStill_83 : decode cX4_isStill 83 = .ok (.aload_n 0, 1) := by decide +kernel
theorem dX4_isStill_84 : decode cX4_isStill 84 = .ok (.getfield 33, 3) := by decide +kernel
theorem dX4_isStill_87 : decode cX4_isStill 87 = .ok (.getfield 53, 3) := by decide +kernel
theorem dX4_isStill_90 : decode cX4_isStill 90 = .ok (.getfield 43, 3) := by decide +kernel
theorem dX4_isStill_93 : decode cX4_isStill 93 = .ok (.if_icmp .ge 46, 3) := by decide +kernel
theorem dX4_isStill_96 : decode cX4_isStill 96 = .ok (.iload_n 3, 1) := by decide +kernel
theorem dX4_isStill_97 : decode cX4_isStill 97 = .ok (.aload_n 0, 1) := by decide +kernel
theorem dX4_isStill_98 : decode cX4_isStill 98 = .ok (.getfield 30, 3) := by decide +kernel
theorem dX4_isStill_101 : decode cX4_isStill 101 = .ok (.arraylength, 1) := by decide +kernel
theorem dX4_isStill_102 : decode cX4_isStill 102 = .ok (.if_icmp .ge 37, 3) := by decide +kernel
theorem dX4_isStill_105 : decode cX4_isStill 105 = .ok (.iload_n 1, 1) := by decide +kernel
theorem dX4_isStill_106 : decode cX4_isStill 106 = .ok (.aload_n 0, 1) := by decide +kernel
theorem dX4_isStill_107 : decode cX4_isStill 107 = .ok (.getfield 30, 3) := by decide +kernel
theorem dX4_isStill_110 : decode cX4_isStill 110 = .ok (.iload_n 3, 1) := by decide +kernel
theorem dX4_isStill_111 : decode cX4_isStill 111 = .ok (.iaload, 1) := by decide +kernel
theorem dX4_isStill_112 : decode cX4_isStill 112 = .ok (.iand, 1) := by decide +kernel
theorem dX4_isStill_113 : decode cX4_isStill 113 = .ok (.istore 4, 2) := by decide +kernel
theorem dX4_isStill_115 : decode cX4_isStill 115 = .ok (.iload 4, 2) := by decide +kernel
theorem dX4_isStill_117 : decode cX4_isStill 117 = .ok (.ifCond .eq 16, 3) := by decide +kernel
theorem dX4_isStill_120 : decode cX4_isStill 120 = .ok (.iload 4, 2) := by decide +kernel
theorem dX4_isStill_122 : decode cX4_isStill 122 = .ok (.aload_n 0, 1) := by decide +kernel
theorem dX4_isStill_123 : decode cX4_isStill 123 = .ok (.getfield 30, 3) := by decide +kernel
theorem dX4_isStill_126 : decode cX4_isStill 126 = .ok (.iload_n 3, 1) := by decide +kernel
theorem dX4_isStill_127 : decode cX4_isStill 127 = .ok (.iaload, 1) := by decide +kernel
theorem dX4_isStill_128 : decode cX4_isStill 128 = .ok (.if_icmp .eq 5, 3) := by decide +kernel
theorem dX4_isStill_131 : decode cX4_isStill 131 = .ok (.iconst 0, 1) := by decide +kernel
theorem dX4_isStill_132 : decode cX4_isStill 132 = .ok (.ireturn, 1) := by decide +kernel
theorem dX4_isStill_133 : decode cX4_isStill 133 = .ok (.iinc 3 1, 3) := by decide +kernel
theorem dX4_isStill_136 : decode cX4_isStill 136 = .ok (.goto (-61), 3) := by decide +kernel
theorem dX4_isStill_139 : decode cX4_isStill 139 = .ok (.iconst 1, 1) := by decide +kernel
theorem dX4_isStill_140 : decode cX4_isStill 140 = .ok (.ireturn, 1) := by decide +kernel
noncomputable def f_X4_isStill_J133 (a0 : Nat) (l1 : Int32) (l3 : Int32) (μ : Mm) : Option ((Int32) ⊕ ((Unit) ⊕ (Unit))) :=
  (some (l3 + (1 : Int32))).bind fun v133 => some (.inl v133)
noncomputable def f_X4_isStill_L75 (a0 : Nat) (l1 : Int32) (μ : Mm) (s75 : Int32) : Option ((Int32) ⊕ ((Unit) ⊕ (Unit))) :=
  (gf_I 5 12 a0 μ).bind fun x76 => if x76 = 0 then some (.inr (.inr ())) else (gf_P 5 7 a0 μ).bind fun x84 => (gf_P 8 4 x84 μ).bind fun x87 => (gf_I 3 1 x87 μ).bind fun x90 => if x90 ≤ s75 then some (.inr (.inr ())) else (gf_P 5 6 a0 μ).bind fun x98 => (ga_len x98 μ).bind fun x101 => if x101 ≤ s75 then some (.inr (.inr ())) else (gf_P 5 6 a0 μ).bind fun x107 => (ga_I x107 s75 μ).bind fun x111 => (some (l1 &&& x111)).bind fun v113 => if v113 = 0 then f_X4_isStill_J133 a0 l1 s75 μ else (gf_P 5 6 a0 μ).bind fun x123 => (ga_I x123 s75 μ).bind fun x127 => if v113 = x127 then f_X4_isStill_J133 a0 l1 s75 μ else some (.inr (.inl ()))
noncomputable def f_X4_isStill_J73 (a0 : Nat) (l1 : Int32) (μ : Mm) : Option Int32 :=
  (whl (f_X4_isStill_L75 a0 l1 μ) (0 : Int32)).bind (sm (fun b75 => some (0 : Int32)) (fun b75 => some (1 : Int32)))
noncomputable def f_X4_isStill_J67 (a0 : Nat) (l1 : Int32) (l2 : Int32) (l3 : Int32) (μ : Mm) : Option ((Int32) ⊕ ((Unit) ⊕ (Unit))) :=
  (some (l3 + (1 : Int32))).bind fun v67 => some (.inl v67)
noncomputable def f_X4_isStill_J45 (a0 : Nat) (l1 : Int32) (l2 : Int32) (l3 : Int32) (k0 : Int32) (μ : Mm) : Option ((Int32) ⊕ ((Unit) ⊕ (Unit))) :=
  if k0 = 0 then f_X4_isStill_J67 a0 l1 l2 l3 μ else (gf_P 5 4 a0 μ).bind fun x53 => (ga_I x53 l3 μ).bind fun x57 => if (x57 &&& (l1 ^^^ (-1 : Int32))) = 0 then f_X4_isStill_J67 a0 l1 l2 l3 μ else some (.inr (.inl ()))
noncomputable def f_X4_isStill_L22 (a0 : Nat) (l1 : Int32) (l2 : Int32) (μ : Mm) (s22 : Int32) : Option ((Int32) ⊕ ((Unit) ⊕ (Unit))) :=
  if l2 = 0 then some (.inr (.inr ())) else if (8 : Int32) ≤ s22 then some (.inr (.inr ())) else if ((l1 >>> (s22 &&& 31)) &&& (1 : Int32)) = 0 then f_X4_isStill_J45 a0 l1 l2 s22 (0 : Int32) μ else f_X4_isStill_J45 a0 l1 l2 s22 (1 : Int32) μ
noncomputable def f_X4_isStill_J19 (a0 : Nat) (l1 : Int32) (k0 : Int32) (μ : Mm) : Option Int32 :=
  (whl (f_X4_isStill_L22 a0 l1 k0 μ) (0 : Int32)).bind (sm (fun b22 => some (0 : Int32)) (fun b22 => f_X4_isStill_J73 a0 l1 μ))
noncomputable def f_X4_isStill_J14 (a0 : Nat) (l1 : Int32) (μ : Mm) : Option Int32 :=
  f_X4_isStill_J19 a0 l1 (1 : Int32) μ
noncomputable def f_X4_isStill (a0 : Nat) (l1 : Int32) (μ : Mm) : Option Int32 :=
  if (mm_K μ a0).1 = 5 then (gf_I 5 11 a0 μ).bind fun x1 => if x1 = 0 then (gf_I 5 13 a0 μ).bind fun x8 => if x8 = 0 then f_X4_isStill_J19 a0 l1 (0 : Int32) μ else f_X4_isStill_J14 a0 l1 μ else f_X4_isStill_J14 a0 l1 μ else none
abbrev Rn_X4_isStill (G : Gv) (Q : Option Value → Mm → Prop) (pc : Nat) (lv : List (Nat × Value)) (st : List Value) (μ : Mm) : Prop := Rn G RX4 cX4_isStill 5 (some .boolean) "isStill" (rmd 0 0 0) (Zm G 0 0 Q) 0 0 pc lv st μ
set_option maxRecDepth 100000 in
set_option maxHeartbeats 4000000 in
theorem m_X4_isStill {G : Gv} (a0 : Nat) (l1 : Int32) (μ : Mm) {r : Int32} (hx : f_X4_isStill a0 l1 μ = some r) : Mt G yX4_isStill cX4_isStill 5 (some .boolean) 0 0 0 [.ref a0, .int l1] μ (fun v μ' => v = some (.int r) ∧ μ' = μ) := by
  refine Mt.of (by decide) (Nat.le_of_ble_eq_true rfl) ?_
  show Rn_X4_isStill G (fun v μ' => v = some (.int r) ∧ μ' = μ) 0 [(0, .ref a0), (1, .int l1)] [] μ
  obtain ⟨_, h⟩ := Sat_ifp (show Sat (f_X4_isStill a0 l1 μ) (fun x => x = r) from ⟨_, hx, rfl⟩)
  have J73 : ∀ (a0_73 : Nat) (l1_73 : Int32), Sat (f_X4_isStill_J73 a0_73 l1_73 μ) (fun x => x = r) → Rn_X4_isStill G (fun v μ' => v = some (.int r) ∧ μ' = μ) 73 [(0, .ref a0_73), (1, .int l1_73)] [] μ := by
    intro a0_73 l1_73 h
    refine r_iconst (v := 0) dX4_isStill_73 (by decide) ?_
    refine r_istore_n (lv' := [(3, .int (0 : Int32)), (0, .ref a0_73), (1, .int l1_73)]) dX4_isStill_74 rfl (by decide) rfl ?_
    refine r_sub (lv' := [(0, .ref a0_73), (1, .int l1_73), (3, .int (0 : Int32))]) [1, 2, 0] rfl ?_
    refine whl_K (s0 := ((0 : Int32) : Int32)) (RR := fun (s75 : Int32) => Rn_X4_isStill G (fun v μ' => v = some (.int r) ∧ μ' = μ) 75 [(0, .ref a0_73), (1, .int l1_73), (3, .int s75)] [] μ) ?_ (Sat_bindK h)
    intro s75 K75 hI75 hX75 h
    have J133 : ∀ (l3_133 : Int32), Sat (f_X4_isStill_J133 a0_73 l1_73 l3_133 μ) K75 → Rn_X4_isStill G (fun v μ' => v = some (.int r) ∧ μ' = μ) 133 [(0, .ref a0_73), (1, .int l1_73), (3, .int l3_133)] [] μ := by
      intro l3_133 h
      obtain ⟨v133, e133, h⟩ := Sat_bind h
      refine r_iinc (j := 2) (v := v133) (lv' := [(3, .int v133), (0, .ref a0_73), (1, .int l1_73)]) dX4_isStill_133 rfl (iinc_v e133 (by decide)) (by decide) rfl ?_
      refine r_goto 75 dX4_isStill_136 (by decide) ?_
      exact r_sub [1, 2, 0] rfl (hI75 _ (Sat_some h))
    refine r_aload_n dX4_isStill_75 0 rfl ?_
    obtain ⟨x76, e76, h⟩ := Sat_bind h
    refine r_getI fk_X4_102 rfl e76 dX4_isStill_76 ?_
    refine r_if_eq 139 dX4_isStill_79 (by decide) (fun c79 => ?_) (fun c79 => ?_)
    · have h := Sat_pos c79 h
      have h := hX75 _ (Sat_some h)
      refine r_iconst (v := 1) dX4_isStill_139 (by decide) ?_
      exact r_zreturn rfl (by decide) (by rw [← Sat_eq h]; exact ⟨rfl, rfl⟩) dX4_isStill_140
    · have h := Sat_neg c79 h
      refine r_iload_n dX4_isStill_82 2 rfl ?_
      refine r_aload_n dX4_isStill_83 0 rfl ?_
      obtain ⟨x84, e84, h⟩ := Sat_bind h
      refine r_getP fk_X4_33 rfl e84 dX4_isStill_84 ?_
      obtain ⟨x87, e87, h⟩ := Sat_bind h
      refine r_getP fk_X4_53 rfl e87 dX4_isStill_87 ?_
      obtain ⟨x90, e90, h⟩ := Sat_bind h
      refine r_getI fk_X4_43 rfl e90 dX4_isStill_90 ?_
      refine r_icmp_ge 139 dX4_isStill_93 (by decide) (fun c93 => ?_) (fun c93 => ?_)
      · have h := Sat_pos c93 h
        have h := hX75 _ (Sat_some h)
        refine r_iconst (v := 1) dX4_isStill_139 (by decide) ?_
        exact r_zreturn rfl (by decide) (by rw [← Sat_eq h]; exact ⟨rfl, rfl⟩) dX4_isStill_140
      · have h := Sat_neg c93 h
        refine r_iload_n dX4_isStill_96 2 rfl ?_
        refine r_aload_n dX4_isStill_97 0 rfl ?_
        obtain ⟨x98, e98, h⟩ := Sat_bind h
        refine r_getP fk_X4_30 rfl e98 dX4_isStill_98 ?_
        obtain ⟨x101, e101, h⟩ := Sat_bind h
        refine r_len e101 dX4_isStill_101 ?_
        refine r_icmp_ge 139 dX4_isStill_102 (by decide) (fun c102 => ?_) (fun c102 => ?_)
        · have h := Sat_pos c102 h
          have h := hX75 _ (Sat_some h)
          refine r_iconst (v := 1) dX4_isStill_139 (by decide) ?_
          exact r_zreturn rfl (by decide) (by rw [← Sat_eq h]; exact ⟨rfl, rfl⟩) dX4_isStill_140
        · have h := Sat_neg c102 h
          refine r_iload_n dX4_isStill_105 1 rfl ?_
          refine r_aload_n dX4_isStill_106 0 rfl ?_
          obtain ⟨x107, e107, h⟩ := Sat_bind h
          refine r_getP fk_X4_30 rfl e107 dX4_isStill_107 ?_
          refine r_iload_n dX4_isStill_110 2 rfl ?_
          obtain ⟨x111, e111, h⟩ := Sat_bind h
          refine r_iaload e111 dX4_isStill_111 ?_
          refine r_iand dX4_isStill_112 ?_
          obtain ⟨v113, e113, h⟩ := Sat_bind h
          refine r_topi (Option.some.inj e113) ?_
          refine r_istore (lv' := [(4, .int v113), (0, .ref a0_73), (1, .int l1_73), (3, .int s75)]) dX4_isStill_113 (by decide) rfl ?_
          refine r_iload dX4_isStill_115 0 rfl ?_
          refine r_if_eq 133 dX4_isStill_117 (by decide) (fun c117 => ?_) (fun c117 => ?_)
          · have h := Sat_pos c117 h
            exact r_sub [1, 2, 3] rfl (J133 s75 h)
          · have h := Sat_neg c117 h
            refine r_iload dX4_isStill_120 0 rfl ?_
            refine r_aload_n dX4_isStill_122 1 rfl ?_
            obtain ⟨x123, e123, h⟩ := Sat_bind h
            refine r_getP fk_X4_30 rfl e123 dX4_isStill_123 ?_
            refine r_iload_n dX4_isStill_126 3 rfl ?_
            obtain ⟨x127, e127, h⟩ := Sat_bind h
            refine r_iaload e127 dX4_isStill_127 ?_
            refine r_icmp_eq 133 dX4_isStill_128 (by decide) (fun c128 => ?_) (fun c128 => ?_)
            · have h := Sat_pos c128 h
              exact r_sub [1, 2, 3] rfl (J133 s75 h)
            · have h := Sat_neg c128 h
              have h := hX75 _ (Sat_some h)
              refine r_iconst (v := 0) dX4_isStill_131 (by decide) ?_
              exact r_zreturn rfl (by decide) (by rw [← Sat_eq h]; exact ⟨rfl, rfl⟩) dX4_isStill_132
  have J19 : ∀ (a0_19 : Nat) (l1_19 : Int32) (k0_19 : Int32), Sat (f_X4_isStill_J19 a0_19 l1_19 k0_19 μ) (fun x => x = r) → Rn_X4_isStill G (fun v μ' => v = some (.int r) ∧ μ' = μ) 19 [(0, .ref a0_19), (1, .int l1_19)] [.int k0_19] μ := by
    intro a0_19 l1_19 k0_19 h
    refine r_istore_n (lv' := [(2, .int k0_19), (0, .ref a0_19), (1, .int l1_19)]) dX4_isStill_19 rfl (by decide) rfl ?_
    refine r_iconst (v := 0) dX4_isStill_20 (by decide) ?_
    refine r_istore_n (lv' := [(3, .int (0 : Int32)), (2, .int k0_19), (0, .ref a0_19), (1, .int l1_19)]) dX4_isStill_21 rfl (by decide) rfl ?_
    refine r_sub (lv' := [(0, .ref a0_19), (1, .int l1_19), (2, .int k0_19), (3, .int (0 : Int32))]) [2, 3, 1, 0] rfl ?_
    refine whl_K (s0 := ((0 : Int32) : Int32)) (RR := fun (s22 : Int32) => Rn_X4_isStill G (fun v μ' => v = some (.int r) ∧ μ' = μ) 22 [(0, .ref a0_19), (1, .int l1_19), (2, .int k0_19), (3, .int s22)] [] μ) ?_ (Sat_bindK h)
    intro s22 K22 hI22 hX22 h
    have J67 : ∀ (l3_67 : Int32), Sat (f_X4_isStill_J67 a0_19 l1_19 k0_19 l3_67 μ) K22 → Rn_X4_isStill G (fun v μ' => v = some (.int r) ∧ μ' = μ) 67 [(0, .ref a0_19), (1, .int l1_19), (2, .int k0_19), (3, .int l3_67)] [] μ := by
      intro l3_67 h
      obtain ⟨v67, e67, h⟩ := Sat_bind h
      refine r_iinc (j := 3) (v := v67) (lv' := [(3, .int v67), (0, .ref a0_19), (1, .int l1_19), (2, .int k0_19)]) dX4_isStill_67 rfl (iinc_v e67 (by decide)) (by decide) rfl ?_
      refine r_goto 22 dX4_isStill_70 (by decide) ?_
      exact r_sub [1, 2, 3, 0] rfl (hI22 _ (Sat_some h))
    have J45 : ∀ (l3_45 : Int32) (k0_45 : Int32), Sat (f_X4_isStill_J45 a0_19 l1_19 k0_19 l3_45 k0_45 μ) K22 → Rn_X4_isStill G (fun v μ' => v = some (.int r) ∧ μ' = μ) 45 [(0, .ref a0_19), (1, .int l1_19), (2, .int k0_19), (3, .int l3_45)] [.int k0_45] μ := by
      intro l3_45 k0_45 h
      refine r_istore (lv' := [(4, .int k0_45), (0, .ref a0_19), (1, .int l1_19), (2, .int k0_19), (3, .int l3_45)]) dX4_isStill_45 (by decide) rfl ?_
      refine r_iload dX4_isStill_47 0 rfl ?_
      refine r_if_eq 67 dX4_isStill_49 (by decide) (fun c49 => ?_) (fun c49 => ?_)
      · have h := Sat_pos c49 h
        exact r_sub [1, 2, 3, 4] rfl (J67 l3_45 h)
      · have h := Sat_neg c49 h
        refine r_aload_n dX4_isStill_52 1 rfl ?_
        obtain ⟨x53, e53, h⟩ := Sat_bind h
        refine r_getP fk_X4_24 rfl e53 dX4_isStill_53 ?_
        refine r_iload_n dX4_isStill_56 4 rfl ?_
        obtain ⟨x57, e57, h⟩ := Sat_bind h
        refine r_iaload e57 dX4_isStill_57 ?_
        refine r_iload_n dX4_isStill_58 2 rfl ?_
        refine r_iconst (v := -1) dX4_isStill_59 (by decide) ?_
        refine r_ixor dX4_isStill_60 ?_
        refine r_iand dX4_isStill_61 ?_
        refine r_if_eq 67 dX4_isStill_62 (by decide) (fun c62 => ?_) (fun c62 => ?_)
        · have h := Sat_pos c62 h
          exact r_sub [1, 2, 3, 4] rfl (J67 l3_45 h)
        · have h := Sat_neg c62 h
          have h := hX22 _ (Sat_some h)
          refine r_iconst (v := 0) dX4_isStill_65 (by decide) ?_
          exact r_zreturn rfl (by decide) (by rw [← Sat_eq h]; exact ⟨rfl, rfl⟩) dX4_isStill_66
    refine r_iload_n dX4_isStill_22 2 rfl ?_
    refine r_if_eq 73 dX4_isStill_23 (by decide) (fun c23 => ?_) (fun c23 => ?_)
    · have h := Sat_pos c23 h
      have h := hX22 _ (Sat_some h)
      exact r_sub [0, 1] rfl (J73 a0_19 l1_19 h)
    · have h := Sat_neg c23 h
      refine r_iload_n dX4_isStill_26 3 rfl ?_
      refine r_bipush (v := 8) dX4_isStill_27 (by decide) ?_
      refine r_icmp_ge 73 dX4_isStill_29 (by decide) (fun c29 => ?_) (fun c29 => ?_)
      · have h := Sat_pos c29 h
        have h := hX22 _ (Sat_some h)
        exact r_sub [0, 1] rfl (J73 a0_19 l1_19 h)
      · have h := Sat_neg c29 h
        refine r_iload_n dX4_isStill_32 1 rfl ?_
        refine r_iload_n dX4_isStill_33 3 rfl ?_
        refine r_ishr dX4_isStill_34 ?_
        refine r_iconst (v := 1) dX4_isStill_35 (by decide) ?_
        refine r_iand dX4_isStill_36 ?_
        refine r_if_eq 44 dX4_isStill_37 (by decide) (fun c37 => ?_) (fun c37 => ?_)
        · have h := Sat_pos c37 h
          refine r_iconst (v := 0) dX4_isStill_44 (by decide) ?_
          exact r_sub [0, 1, 2, 3] rfl (J45 s22 (0 : Int32) h)
        · have h := Sat_neg c37 h
          refine r_iconst (v := 1) dX4_isStill_40 (by decide) ?_
          refine r_goto 45 dX4_isStill_41 (by decide) ?_
          exact r_sub [0, 1, 2, 3] rfl (J45 s22 (1 : Int32) h)
  have J14 : ∀ (a0_14 : Nat) (l1_14 : Int32), Sat (f_X4_isStill_J14 a0_14 l1_14 μ) (fun x => x = r) → Rn_X4_isStill G (fun v μ' => v = some (.int r) ∧ μ' = μ) 14 [(0, .ref a0_14), (1, .int l1_14)] [] μ := by
    intro a0_14 l1_14 h
    refine r_iconst (v := 1) dX4_isStill_14 (by decide) ?_
    refine r_goto 19 dX4_isStill_15 (by decide) ?_
    exact r_sub [0, 1] rfl (J19 a0_14 l1_14 (1 : Int32) h)
  refine r_aload_n dX4_isStill_0 0 rfl ?_
  obtain ⟨x1, e1, h⟩ := Sat_bind h
  refine r_getI fk_X4_98 rfl e1 dX4_isStill_1 ?_
  refine r_if_ne 14 dX4_isStill_4 (by decide) (fun c4 => ?_) (fun c4 => ?_)
  · have h := Sat_neg c4 h
    exact r_sub [0, 1] rfl (J14 a0 l1 h)
  · have h := Sat_pos c4 h
    refine r_aload_n dX4_isStill_7 0 rfl ?_
    obtain ⟨x8, e8, h⟩ := Sat_bind h
    refine r_getI fk_X4_105 rfl e8 dX4_isStill_8 ?_
    refine r_if_eq 18 dX4_isStill_11 (by decide) (fun c11 => ?_) (fun c11 => ?_)
    · have h := Sat_pos c11 h
      refine r_iconst (v := 0) dX4_isStill_18 (by decide) ?_
      exact r_sub [0, 1] rfl (J19 a0 l1 (0 : Int32) h)
    · have h := Sat_neg c11 h
      exact r_sub [0, 1] rfl (J14 a0 l1 h)
theorem dX4_withMoment_0 : decode cX4_withMoment 0 = .ok (.lload_n 0, 1) := by decide +kernel
theorem dX4_withMoment_1 : decode cX4_withMoment 1 = .ok (.lstore 4, 2) := by decide +kernel
theorem dX4_withMoment_3 : decode cX4_withMoment 3 = .ok (.iconst 0, 1) := by decide +kernel
theorem dX4_withMoment_4 : decode cX4_withMoment 4 = .ok (.istore 6, 2) := by decide +kernel
theorem dX4_withMoment_6 : decode cX4_withMoment 6 = .ok (.iload 6, 2) := by decide +kernel
theorem dX4_withMoment_8 : decode cX4_withMoment 8 = .ok (.bipush 8, 2) := by decide +kernel
theorem dX4_withMoment_10 : decode cX4_withMoment 10 = .ok (.if_icmp .ge 53, 3) := by decide +kernel
theorem dX4_withMoment_13 : decode cX4_withMoment 13 = .ok (.iload_n 2, 1) := by decide +kernel
theorem dX4_withMoment_14 : decode cX4_withMoment 14 = .ok (.iload 6, 2) := by decide +kernel
theorem dX4_withMoment_16 : decode cX4_withMoment 16 = .ok (.ishr, 1) := by decide +kernel
theorem dX4_withMoment_17 : decode cX4_withMoment 17 = .ok (.ifCond .eq 46, 3) := by decide +kernel
theorem dX4_withMoment_20 : decode cX4_withMoment 20 = .ok (.iload_n 2, 1) := by decide +kernel
theorem dX4_withMoment_21 : decode cX4_withMoment 21 = .ok (.iload 6, 2) := by decide +kernel
theorem dX4_withMoment_23 : decode cX4_withMoment 23 = .ok (.ishr, 1) := by decide +kernel
theorem dX4_withMoment_24 : decode cX4_withMoment 24 = .ok (.iconst 1, 1) := by decide +kernel
theorem dX4_withMoment_25 : decode cX4_withMoment 25 = .ok (.iand, 1) := by decide +kernel
theorem dX4_withMoment_26 : decode cX4_withMoment 26 = .ok (.ifCond .eq 31, 3) := by decide +kernel
theorem dX4_withMoment_29 : decode cX4_withMoment 29 = .ok (.bipush 8, 2) := by decide +kernel
theorem dX4_withMoment_31 : decode cX4_withMoment 31 = .ok (.iload 6, 2) := by decide +kernel
theorem dX4_withMoment_33 : decode cX4_withMoment 33 = .ok (.imul, 1) := by decide +kernel
theorem dX4_withMoment_34 : decode cX4_withMoment 34 = .ok (.istore 7, 2) := by decide +kernel
theorem dX4_withMoment_36 : decode cX4_withMoment 36 = .ok (.lload 4, 2) := by decide +kernel
theorem dX4_withMoment_38 : decode cX4_withMoment 38 = .ok (.ldc2_w 155, 3) := by decide +kernel
theorem dX4_withMoment_41 : decode cX4_withMoment 41 = .ok (.iload 7, 2) := by decide +kernel
theorem dX4_withMoment_43 : decode cX4_withMoment 43 = .ok (.lshl, 1) := by decide +kernel
theorem dX4_withMoment_44 : decode cX4_withMoment 44 = .ok (.ldc2_w 146, 3) := by decide +kernel
theorem dX4_withMoment_47 : decode cX4_withMoment 47 = .ok (.lxor, 1) := by decide +kernel
theorem dX4_withMoment_48 : decode cX4_withMoment 48 = .ok (.land, 1) := by decide +kernel
theorem dX4_withMoment_49 : decode cX4_withMoment 49 = .ok (.iload_n 3, 1) := by decide +kernel
theorem dX4_withMoment_50 : decode cX4_withMoment 50 = .ok (.i2l, 1) := by decide +kernel
theorem dX4_withMoment_51 : decode cX4_withMoment 51 = .ok (.iload 7, 2) := by decide +kernel
theorem dX4_withMoment_53 : decode cX4_withMoment 53 = .ok (.lshl, 1) := by decide +kernel
theorem dX4_withMoment_54 : decode cX4_withMoment 54 = .ok (.lor, 1) := by decide +kernel
theorem dX4_withMoment_55 : decode cX4_withMoment 55 = .ok (.lstore 4, 2) := by decide +kernel
theorem dX4_withMoment_57 : decode cX4_withMoment 57 = .ok (.iinc 6 1, 3) := by decide +kernel
theorem dX4_withMoment_60 : decode cX4_withMoment 60 = .ok (.goto (-54), 3) := by decide +kernel
theorem dX4_withMoment_63 : decode cX4_withMoment 63 = .ok (.lload 4, 2) := by decide +kernel
theorem dX4_withMoment_65 : decode cX4_withMoment 65 = .ok (.lreturn, 1) := by decide +kernel
noncomputable def f_X4_withMoment_J57 (l2 : Int32) (l3 : Int32) (l4 : Int64) (l6 : Int32) (μ : Mm) : Option ((Int64 × Int32) ⊕ (Int64)) :=
  (some (l6 + (1 : Int32))).bind fun v57 => some (.inl (l4, v57))
noncomputable def f_X4_withMoment_L6 (l2 : Int32) (l3 : Int32) (μ : Mm) (s6 : Int64 × Int32) : Option ((Int64 × Int32) ⊕ (Int64)) :=
  if (8 : Int32) ≤ s6.2 then some (.inr s6.1) else if (l2 >>> (s6.2 &&& 31)) = 0 then some (.inr s6.1) else if ((l2 >>> (s6.2 &&& 31)) &&& (1 : Int32)) = 0 then f_X4_withMoment_J57 l2 l3 s6.1 s6.2 μ else (some ((8 : Int32) * s6.2)).bind fun v34 => (some ((s6.1 &&& (((255 : Int64) <<< (v34.toInt64 &&& 63)) ^^^ (-1 : Int64))) ||| (l3.toInt64 <<< (v34.toInt64 &&& 63)))).bind fun v55 => f_X4_withMoment_J57 l2 l3 v55 s6.2 μ
noncomputable def f_X4_withMoment (l0 : Int64) (l2 : Int32) (l3 : Int32) (μ : Mm) : Option Int64 :=
  (whl (f_X4_withMoment_L6 l2 l3 μ) (l0, (0 : Int32))).bind (fun b6 => some b6)
abbrev Rn_X4_withMoment (G : Gv) (Q : Option Value → Mm → Prop) (pc : Nat) (lv : List (Nat × Value)) (st : List Value) (μ : Mm) : Prop := Rn G RX4 cX4_withMoment 8 (some .long) "withMoment" (rmd 0 0 0) (Zm G 0 0 Q) 0 0 pc lv st μ
set_option maxRecDepth 100000 in
set_option maxHeartbeats 4000000 in
theorem m_X4_withMoment {G : Gv} (l0 : Int64) (l2 : Int32) (l3 : Int32) (μ : Mm) {r : Int64} (hx : f_X4_withMoment l0 l2 l3 μ = some r) : Mt G yX4_withMoment cX4_withMoment 8 (some .long) 0 0 0 [.long l0, .int l2, .int l3] μ (fun v μ' => v = some (.long r) ∧ μ' = μ) := by
  refine Mt.of (by decide) (Nat.le_of_ble_eq_true rfl) ?_
  show Rn_X4_withMoment G (fun v μ' => v = some (.long r) ∧ μ' = μ) 0 [(0, .long l0), (2, .int l2), (3, .int l3)] [] μ
  have h : Sat (f_X4_withMoment l0 l2 l3 μ) (fun x => x = r) := ⟨_, hx, rfl⟩
  refine r_lload_n dX4_withMoment_0 0 rfl ?_
  refine r_lstore (lv' := [(4, .long l0), (0, .long l0), (2, .int l2), (3, .int l3)]) dX4_withMoment_1 (by decide) rfl ?_
  refine r_iconst (v := 0) dX4_withMoment_3 (by decide) ?_
  refine r_istore (lv' := [(6, .int (0 : Int32)), (4, .long l0), (0, .long l0), (2, .int l2), (3, .int l3)]) dX4_withMoment_4 (by decide) rfl ?_
  refine r_sub (lv' := [(2, .int l2), (3, .int l3), (4, .long l0), (6, .int (0 : Int32))]) [3, 4, 1, 0] rfl ?_
  refine whl_K (s0 := ((l0, (0 : Int32)) : Int64 × Int32)) (RR := fun (s6 : Int64 × Int32) => Rn_X4_withMoment G (fun v μ' => v = some (.long r) ∧ μ' = μ) 6 [(2, .int l2), (3, .int l3), (4, .long s6.1), (6, .int s6.2)] [] μ) ?_ (Sat_bindK h)
  intro s6 K6 hI6 hX6 h
  have J57 : ∀ (l4_57 : Int64) (l6_57 : Int32), Sat (f_X4_withMoment_J57 l2 l3 l4_57 l6_57 μ) K6 → Rn_X4_withMoment G (fun v μ' => v = some (.long r) ∧ μ' = μ) 57 [(2, .int l2), (3, .int l3), (4, .long l4_57), (6, .int l6_57)] [] μ := by
    intro l4_57 l6_57 h
    obtain ⟨v57, e57, h⟩ := Sat_bind h
    refine r_iinc (j := 3) (v := v57) (lv' := [(6, .int v57), (2, .int l2), (3, .int l3), (4, .long l4_57)]) dX4_withMoment_57 rfl (iinc_v e57 (by decide)) (by decide) rfl ?_
    refine r_goto 6 dX4_withMoment_60 (by decide) ?_
    exact r_sub [1, 2, 3, 0] rfl (hI6 _ (Sat_some h))
  refine r_iload dX4_withMoment_6 3 rfl ?_
  refine r_bipush (v := 8) dX4_withMoment_8 (by decide) ?_
  refine r_icmp_ge 63 dX4_withMoment_10 (by decide) (fun c10 => ?_) (fun c10 => ?_)
  · have h := Sat_pos c10 h
    have h := hX6 _ (Sat_some h)
    refine r_lload dX4_withMoment_63 2 rfl ?_
    exact r_lreturn rfl (by rw [← Sat_eq h]; exact ⟨rfl, rfl⟩) dX4_withMoment_65
  · have h := Sat_neg c10 h
    refine r_iload_n dX4_withMoment_13 0 rfl ?_
    refine r_iload dX4_withMoment_14 3 rfl ?_
    refine r_ishr dX4_withMoment_16 ?_
    refine r_if_eq 63 dX4_withMoment_17 (by decide) (fun c17 => ?_) (fun c17 => ?_)
    · have h := Sat_pos c17 h
      have h := hX6 _ (Sat_some h)
      refine r_lload dX4_withMoment_63 2 rfl ?_
      exact r_lreturn rfl (by rw [← Sat_eq h]; exact ⟨rfl, rfl⟩) dX4_withMoment_65
    · have h := Sat_neg c17 h
      refine r_iload_n dX4_withMoment_20 0 rfl ?_
      refine r_iload dX4_withMoment_21 3 rfl ?_
      refine r_ishr dX4_withMoment_23 ?_
      refine r_iconst (v := 1) dX4_withMoment_24 (by decide) ?_
      refine r_iand dX4_withMoment_25 ?_
      refine r_if_eq 57 dX4_withMoment_26 (by decide) (fun c26 => ?_) (fun c26 => ?_)
      · have h := Sat_pos c26 h
        exact r_sub [0, 1, 2, 3] rfl (J57 s6.1 s6.2 h)
      · have h := Sat_neg c26 h
        refine r_bipush (v := 8) dX4_withMoment_29 (by decide) ?_
        refine r_iload dX4_withMoment_31 3 rfl ?_
        refine r_imul dX4_withMoment_33 ?_
        obtain ⟨v34, e34, h⟩ := Sat_bind h
        refine r_topi (Option.some.inj e34) ?_
        refine r_istore (lv' := [(7, .int v34), (2, .int l2), (3, .int l3), (4, .long s6.1), (6, .int s6.2)]) dX4_withMoment_34 (by decide) rfl ?_
        refine r_lload dX4_withMoment_36 3 rfl ?_
        refine r_ldc2 (v := 255) dX4_withMoment_38 kc_X4_155 ?_
        refine r_iload dX4_withMoment_41 0 rfl ?_
        refine r_lshl dX4_withMoment_43 ?_
        refine r_ldc2 (v := -1) dX4_withMoment_44 kc_X4_146 ?_
        refine r_lxor dX4_withMoment_47 ?_
        refine r_land dX4_withMoment_48 ?_
        refine r_iload_n dX4_withMoment_49 2 rfl ?_
        refine r_i2l dX4_withMoment_50 ?_
        refine r_iload dX4_withMoment_51 0 rfl ?_
        refine r_lshl dX4_withMoment_53 ?_
        refine r_lor dX4_withMoment_54 ?_
        obtain ⟨v55, e55, h⟩ := Sat_bind h
        refine r_topl (Option.some.inj e55) ?_
        refine r_lstore (lv' := [(4, .long v55), (7, .int v34), (2, .int l2), (3, .int l3), (6, .int s6.2)]) dX4_withMoment_55 (by decide) rfl ?_
        exact r_sub [2, 3, 0, 4] rfl (J57 v55 s6.2 h)
theorem dX4_comings_0 : decode cX4_comings 0 = .ok (.ldc2_w 146, 3) := by decide +kernel
theorem dX4_comings_3 : decode cX4_comings 3 = .ok (.lstore_n 1, 1) := by decide +kernel
theorem dX4_comings_4 : decode cX4_comings 4 = .ok (.iconst 0, 1) := by decide +kernel
theorem dX4_comings_5 : decode cX4_comings 5 = .ok (.istore_n 3, 1) := by decide +kernel
theorem dX4_comings_6 : decode cX4_comings 6 = .ok (.aload_n 0, 1) := by decide +kernel
theorem dX4_comings_7 : decode cX4_comings 7 = .ok (.getfield 89, 3) := by decide +kernel
theorem dX4_comings_10 : decode cX4_comings 10 = .ok (.istore 4, 2) := by decide +kernel
theorem dX4_comings_12 : decode cX4_comings 12 = .ok (.iload 4, 2) := by decide +kernel
theorem dX4_comings_14 : decode cX4_comings 14 = .ok (.bipush 28, 2) := by decide +kernel
theorem dX4_comings_16 : decode cX4_comings 16 = .ok (.if_icmp .ge 96, 3) := by decide +kernel
theorem dX4_comings_19 : decode cX4_comings 19 = .ok (.aload_n 0, 1) := by decide +kernel
theorem dX4_comings_20 : decode cX4_comings 20 = .ok (.iload_n 3, 1) := by decide +kernel
theorem dX4_comings_21 : decode cX4_comings 21 = .ok (.iload 4, 2) := by decide +kernel
theorem dX4_comings_23 : decode cX4_comings 23 = .ok (.invokevirtual 118, 3) := by decide +kernel
theorem dX4_comings_26 : decode cX4_comings 26 = .ok (.istore 5, 2) := by decide +kernel
theorem dX4_comings_28 : decode cX4_comings 28 = .ok (.aload_n 0, 1) := by decide +kernel
theorem dX4_comings_29 : decode cX4_comings 29 = .ok (.iload 5, 2) := by decide +kernel
theorem dX4_comings_31 : decode cX4_comings 31 = .ok (.iload 4, 2) := by decide +kernel
theorem dX4_comings_33 : decode cX4_comings 33 = .ok (.invokevirtual 121, 3) := by decide +kernel
theorem dX4_comings_36 : decode cX4_comings 36 = .ok (.istore 6, 2) := by decide +kernel
theorem dX4_comings_38 : decode cX4_comings 38 = .ok (.iload 5, 2) := by decide +kernel
theorem dX4_comings_40 : decode cX4_comings 40 = .ok (.iload_n 3, 1) := by decide +kernel
theorem dX4_comings_41 : decode cX4_comings 41 = .ok (.if_icmp .eq 18, 3) := by decide +kernel
theorem dX4_comings_44 : decode cX4_comings 44 = .ok (.lload_n 1, 1) := by decide +kernel
theorem dX4_comings_45 : decode cX4_comings 45 = .ok (.iload 5, 2) := by decide +kernel
theorem dX4_comings_47 : decode cX4_comings 47 = .ok (.iload_n 3, 1) := by decide +kernel
theorem dX4_comings_48 : decode cX4_comings 48 = .ok (.iconst (-1), 1) := by decide +kernel
theorem dX4_comings_49 : decode cX4_comings 49 = .ok (.ixor, 1) := by decide +kernel
theorem dX4_comings_50 : decode cX4_comings 50 = .ok (.iand, 1) := by decide +kernel
theorem dX4_comings_51 : decode cX4_comings 51 = .ok (.iconst 2, 1) := by decide +kernel
theorem dX4_comings_52 : decode cX4_comings 52 = .ok (.iload 4, 2) := by decide +kernel
theorem dX4_comings_54 : decode cX4_comings 54 = .ok (.imul, 1) := by decide +kernel
theorem dX4_comings_55 : decode cX4_comings 55 = .ok (.invokestatic 148, 3) := by decide +kernel
theorem dX4_comings_58 : decode cX4_comings 58 = .ok (.lstore_n 1, 1) := by decide +kernel
theorem dX4_comings_59 : decode cX4_comings 59 = .ok (.iload 6, 2) := by decide +kernel
theorem dX4_comings_61 : decode cX4_comings 61 = .ok (.iload 5, 2) := by decide +kernel
theorem dX4_comings_63 : decode cX4_comings 63 = .ok (.if_icmp .eq 24, 3) := by decide +kernel
theorem dX4_comings_66 : decode cX4_comings 66 = .ok (.lload_n 1, 1) := by decide +kernel
theorem dX4_comings_67 : decode cX4_comings 67 = .ok (.iload 6, 2) := by decide +kernel
theorem dX4_comings_69 : decode cX4_comings 69 = .ok (.iload 5, 2) := by decide +kernel
theorem dX4_comings_71 : decode cX4_comings 71 = .ok (.iconst (-1), 1) := by decide +kernel
theorem dX4_comings_72 : decode cX4_comings 72 = .ok (.ixor, 1) := by decide +kernel
theorem dX4_comings_73 : decode cX4_comings 73 = .ok (.iand, 1) := by decide +kernel
theorem dX4_comings_74 : decode cX4_comings 74 = .ok (.iconst 2, 1) := by decide +kernel
theorem dX4_comings_75 : decode cX4_comings 75 = .ok (.iload 4, 2) := by decide +kernel
theorem dX4_comings_77 : decode cX4_comings 77 = .ok (.imul, 1) := by decide +kernel
theorem dX4_comings_78 : decode cX4_comings 78 = .ok (.iconst 1, 1) := by decide +kernel
theorem dX4_comings_79 : decode cX4_comings 79 = .ok (.iadd, 1) := by decide +kernel
theorem dX4_comings_80 : decode cX4_comings 80 = .ok (.invokestatic 148, 3) := by decide +kernel
theorem dX4_comings_83 : decode cX4_comings 83 = .ok (.lstore_n 1, 1) := by decide +kernel
theorem dX4_comings_84 : decode cX4_comings 84 = .ok (.goto 19, 3) := by decide +kernel
theorem dX4_comings_87 : decode cX4_comings 87 = .ok (.iload 5, 2) := by decide +kernel
theorem dX4_comings_89 : decode cX4_comings 89 = .ok (.iload_n 3, 1) := by decide +kernel
theorem dX4_comings_90 : decode cX4_comings 90 = .ok (.if_icmp .ne 13, 3) := by decide +kernel
theorem dX4_comings_93 : decode cX4_comings 93 = .ok (.aload_n 0, 1) := by decide +kernel
theorem dX4_comings_94 : decode cX4_comings 94 = .ok (.iload_n 3, 1) := by decide +kernel
theorem dX4_comings_95 : decode cX4_comings 95 = .ok (.invokevirtual 152, 3) := by decide +kernel
theorem dX4_comings_98 : decode cX4_comings 98 = .ok (.ifCond .eq 5, 3) := by decide +kernel
theorem dX4_comings_101 : decode cX4_comings 101 = .ok (.lload_n 1, 1) := by decide +kernel
theorem dX4_comings_102 : decode cX4_comings 102 = .ok (.lreturn, 1) := by decide +kernel
theorem dX4_comings_103 : decode cX4_comings 103 = .ok (.iload 6, 2) := by decide +kernel
theorem dX4_comings_105 : decode cX4_comings 105 = .ok (.istore_n 3, 1) := by decide +kernel
theorem dX4_comings_106 : decode cX4_comings 106 = .ok (.iinc 4 1, 3) := by decide +kernel
theorem dX4_comings_109 : decode cX4_comings 109 = .ok (.goto (-97), 3) := by decide +kernel
theorem dX4_comings_112 : decode cX4_comings 112 = .ok (.lload_n 1, 1) := by decide +kernel
theorem dX4_comings_113 : decode cX4_comings 113 = .ok (.lreturn, 1) := by decide +kernel
noncomputable def f_X4_comings_J103 (a0 : Nat) (l1 : Int64) (l4 : Int32) (l6 : Int32) (μ : Mm) : Option ((Int64 × Int32 × Int32) ⊕ ((Int64) ⊕ (Int64))) :=
  (some (l4 + (1 : Int32))).bind fun v106 => some (.inl (l1, l6, v106))
noncomputable def f_X4_comings_J59 (a0 : Nat) (l1 : Int64) (l3 : Int32) (l4 : Int32) (l5 : Int32) (l6 : Int32) (μ : Mm) : Option ((Int64 × Int32 × Int32) ⊕ ((Int64) ⊕ (Int64))) :=
  if l6 = l5 then if l5 = l3 then (f_X4_isStill a0 l3 μ).bind fun x95 => if x95 = 0 then f_X4_comings_J103 a0 l1 l4 l6 μ else some (.inr (.inl l1)) else f_X4_comings_J103 a0 l1 l4 l6 μ else (f_X4_withMoment l1 (l6 &&& (l5 ^^^ (-1 : Int32))) (((2 : Int32) * l4) + (1 : Int32)) μ).bind fun x80 => f_X4_comings_J103 a0 x80 l4 l6 μ
noncomputable def f_X4_comings_L12 (a0 : Nat) (μ : Mm) (s12 : Int64 × Int32 × Int32) : Option ((Int64 × Int32 × Int32) ⊕ ((Int64) ⊕ (Int64))) :=
  if (28 : Int32) ≤ s12.2.2 then some (.inr (.inr s12.1)) else (f_X4_byDay a0 s12.2.1 s12.2.2 μ).bind fun x23 => (f_X4_byNight a0 x23 s12.2.2 μ).bind fun x33 => if x23 = s12.2.1 then f_X4_comings_J59 a0 s12.1 s12.2.1 s12.2.2 x23 x33 μ else (f_X4_withMoment s12.1 (x23 &&& (s12.2.1 ^^^ (-1 : Int32))) ((2 : Int32) * s12.2.2) μ).bind fun x55 => f_X4_comings_J59 a0 x55 s12.2.1 s12.2.2 x23 x33 μ
noncomputable def f_X4_comings (a0 : Nat) (μ : Mm) : Option Int64 :=
  if (mm_K μ a0).1 = 5 then (gf_I 5 8 a0 μ).bind fun x7 => (whl (f_X4_comings_L12 a0 μ) ((-1 : Int64), (0 : Int32), x7)).bind (sm (fun b12 => some b12) (fun b12 => some b12)) else none
abbrev Rn_X4_comings (G : Gv) (Q : Option Value → Mm → Prop) (pc : Nat) (lv : List (Nat × Value)) (st : List Value) (μ : Mm) : Prop := Rn G RX4 cX4_comings 7 (some .long) "comings" (rmd 2 0 0) (Zm G 0 0 Q) 0 0 pc lv st μ
set_option maxRecDepth 100000 in
set_option maxHeartbeats 4000000 in
theorem m_X4_comings {G : Gv} (a0 : Nat) (μ : Mm) {r : Int64} (hx : f_X4_comings a0 μ = some r) : Mt G yX4_comings cX4_comings 7 (some .long) 2 0 0 [.ref a0] μ (fun v μ' => v = some (.long r) ∧ μ' = μ) := by
  refine Mt.of (by decide) (Nat.le_of_ble_eq_true rfl) ?_
  show Rn_X4_comings G (fun v μ' => v = some (.long r) ∧ μ' = μ) 0 [(0, .ref a0)] [] μ
  obtain ⟨_, h⟩ := Sat_ifp (show Sat (f_X4_comings a0 μ) (fun x => x = r) from ⟨_, hx, rfl⟩)
  refine r_ldc2 (v := -1) dX4_comings_0 kc_X4_146 ?_
  refine r_lstore_n (lv' := [(1, .long (-1 : Int64)), (0, .ref a0)]) dX4_comings_3 rfl (by decide) rfl ?_
  refine r_iconst (v := 0) dX4_comings_4 (by decide) ?_
  refine r_istore_n (lv' := [(3, .int (0 : Int32)), (1, .long (-1 : Int64)), (0, .ref a0)]) dX4_comings_5 rfl (by decide) rfl ?_
  refine r_aload_n dX4_comings_6 2 rfl ?_
  obtain ⟨x7, e7, h⟩ := Sat_bind h
  refine r_getI fk_X4_89 rfl e7 dX4_comings_7 ?_
  refine r_istore (lv' := [(4, .int x7), (3, .int (0 : Int32)), (1, .long (-1 : Int64)), (0, .ref a0)]) dX4_comings_10 (by decide) rfl ?_
  refine r_sub (lv' := [(0, .ref a0), (1, .long (-1 : Int64)), (3, .int (0 : Int32)), (4, .int x7)]) [3, 2, 1, 0] rfl ?_
  refine whl_K (s0 := (((-1 : Int64), (0 : Int32), x7) : Int64 × Int32 × Int32)) (RR := fun (s12 : Int64 × Int32 × Int32) => Rn_X4_comings G (fun v μ' => v = some (.long r) ∧ μ' = μ) 12 [(0, .ref a0), (1, .long s12.1), (3, .int s12.2.1), (4, .int s12.2.2)] [] μ) ?_ (Sat_bindK h)
  intro s12 K12 hI12 hX12 h
  have J103 : ∀ (l1_103 : Int64) (l4_103 : Int32) (l6_103 : Int32), Sat (f_X4_comings_J103 a0 l1_103 l4_103 l6_103 μ) K12 → Rn_X4_comings G (fun v μ' => v = some (.long r) ∧ μ' = μ) 103 [(0, .ref a0), (1, .long l1_103), (4, .int l4_103), (6, .int l6_103)] [] μ := by
    intro l1_103 l4_103 l6_103 h
    refine r_iload dX4_comings_103 3 rfl ?_
    refine r_istore_n (lv' := [(3, .int l6_103), (0, .ref a0), (1, .long l1_103), (4, .int l4_103), (6, .int l6_103)]) dX4_comings_105 rfl (by decide) rfl ?_
    obtain ⟨v106, e106, h⟩ := Sat_bind h
    refine r_iinc (j := 3) (v := v106) (lv' := [(4, .int v106), (3, .int l6_103), (0, .ref a0), (1, .long l1_103), (6, .int l6_103)]) dX4_comings_106 rfl (iinc_v e106 (by decide)) (by decide) rfl ?_
    refine r_goto 12 dX4_comings_109 (by decide) ?_
    exact r_sub [2, 3, 1, 0] rfl (hI12 _ (Sat_some h))
  have J59 : ∀ (l1_59 : Int64) (l3_59 : Int32) (l4_59 : Int32) (l5_59 : Int32) (l6_59 : Int32), Sat (f_X4_comings_J59 a0 l1_59 l3_59 l4_59 l5_59 l6_59 μ) K12 → Rn_X4_comings G (fun v μ' => v = some (.long r) ∧ μ' = μ) 59 [(0, .ref a0), (1, .long l1_59), (3, .int l3_59), (4, .int l4_59), (5, .int l5_59), (6, .int l6_59)] [] μ := by
    intro l1_59 l3_59 l4_59 l5_59 l6_59 h
    refine r_iload dX4_comings_59 5 rfl ?_
    refine r_iload dX4_comings_61 4 rfl ?_
    refine r_icmp_eq 87 dX4_comings_63 (by decide) (fun c63 => ?_) (fun c63 => ?_)
    · have h := Sat_pos c63 h
      refine r_iload dX4_comings_87 4 rfl ?_
      refine r_iload_n dX4_comings_89 2 rfl ?_
      refine r_icmp_ne 103 dX4_comings_90 (by decide) (fun c90 => ?_) (fun c90 => ?_)
      · have h := Sat_neg c90 h
        exact r_sub [0, 1, 3, 5] rfl (J103 l1_59 l4_59 l6_59 h)
      · have h := Sat_pos c90 h
        refine r_aload_n dX4_comings_93 0 rfl ?_
        refine r_iload_n dX4_comings_94 2 rfl ?_
        obtain ⟨x95, e95, h⟩ := Sat_bind h
        refine r_cV (t := 5) [.int l3_59] [] (m_X4_isStill a0 l3_59 μ e95) ck_X4_isStill lk_X4_152 in_X4_isStill se_X4_isStill (kd_of e95) ⟨rfl, by decide, by decide⟩ rfl rfl (Nat.le_of_ble_eq_true rfl) ⟨by decide, by decide⟩ ⟨Nat.zero_le _, Nat.zero_le _⟩ dX4_comings_95 ?_
        refine r_if_eq 103 dX4_comings_98 (by decide) (fun c98 => ?_) (fun c98 => ?_)
        · have h := Sat_pos c98 h
          exact r_sub [0, 1, 3, 5] rfl (J103 l1_59 l4_59 l6_59 h)
        · have h := Sat_neg c98 h
          have h := hX12 _ (Sat_some h)
          refine r_lload_n dX4_comings_101 1 rfl ?_
          exact r_lreturn rfl (by rw [← Sat_eq h]; exact ⟨rfl, rfl⟩) dX4_comings_102
    · have h := Sat_neg c63 h
      refine r_lload_n dX4_comings_66 1 rfl ?_
      refine r_iload dX4_comings_67 5 rfl ?_
      refine r_iload dX4_comings_69 4 rfl ?_
      refine r_iconst (v := -1) dX4_comings_71 (by decide) ?_
      refine r_ixor dX4_comings_72 ?_
      refine r_iand dX4_comings_73 ?_
      refine r_iconst (v := 2) dX4_comings_74 (by decide) ?_
      refine r_iload dX4_comings_75 3 rfl ?_
      refine r_imul dX4_comings_77 ?_
      refine r_iconst (v := 1) dX4_comings_78 (by decide) ?_
      refine r_iadd dX4_comings_79 ?_
      obtain ⟨x80, e80, h⟩ := Sat_bind h
      refine r_cS [.long l1_59, .int (l6_59 &&& (l5_59 ^^^ (-1 : Int32))), .int (((2 : Int32) * l4_59) + (1 : Int32))] [] (m_X4_withMoment l1_59 (l6_59 &&& (l5_59 ^^^ (-1 : Int32))) (((2 : Int32) * l4_59) + (1 : Int32)) μ e80) ck_X4_withMoment lk_X4_148 st_X4_withMoment rfl rfl (Nat.le_of_ble_eq_true rfl) ⟨by decide, by decide⟩ ⟨Nat.zero_le _, Nat.zero_le _⟩ dX4_comings_80 ?_
      refine r_lstore_n (lv' := [(1, .long x80), (0, .ref a0), (3, .int l3_59), (4, .int l4_59), (5, .int l5_59), (6, .int l6_59)]) dX4_comings_83 rfl (by decide) rfl ?_
      refine r_goto 103 dX4_comings_84 (by decide) ?_
      exact r_sub [1, 0, 3, 5] rfl (J103 x80 l4_59 l6_59 h)
  refine r_iload dX4_comings_12 3 rfl ?_
  refine r_bipush (v := 28) dX4_comings_14 (by decide) ?_
  refine r_icmp_ge 112 dX4_comings_16 (by decide) (fun c16 => ?_) (fun c16 => ?_)
  · have h := Sat_pos c16 h
    have h := hX12 _ (Sat_some h)
    refine r_lload_n dX4_comings_112 1 rfl ?_
    exact r_lreturn rfl (by rw [← Sat_eq h]; exact ⟨rfl, rfl⟩) dX4_comings_113
  · have h := Sat_neg c16 h
    refine r_aload_n dX4_comings_19 0 rfl ?_
    refine r_iload_n dX4_comings_20 2 rfl ?_
    refine r_iload dX4_comings_21 3 rfl ?_
    obtain ⟨x23, e23, h⟩ := Sat_bind h
    refine r_cV (t := 5) [.int s12.2.1, .int s12.2.2] [] (m_X4_byDay a0 s12.2.1 s12.2.2 μ e23) ck_X4_byDay lk_X4_118 in_X4_byDay se_X4_byDay (kd_of e23) ⟨rfl, by decide, by decide⟩ rfl rfl (Nat.le_of_ble_eq_true rfl) ⟨by decide, by decide⟩ ⟨Nat.zero_le _, Nat.zero_le _⟩ dX4_comings_23 ?_
    refine r_istore (lv' := [(5, .int x23), (0, .ref a0), (1, .long s12.1), (3, .int s12.2.1), (4, .int s12.2.2)]) dX4_comings_26 (by decide) rfl ?_
    refine r_aload_n dX4_comings_28 1 rfl ?_
    refine r_iload dX4_comings_29 0 rfl ?_
    refine r_iload dX4_comings_31 4 rfl ?_
    obtain ⟨x33, e33, h⟩ := Sat_bind h
    refine r_cV (t := 5) [.int x23, .int s12.2.2] [] (m_X4_byNight a0 x23 s12.2.2 μ e33) ck_X4_byNight lk_X4_121 in_X4_byNight se_X4_byNight (kd_of e33) ⟨rfl, by decide, by decide⟩ rfl rfl (Nat.le_of_ble_eq_true rfl) ⟨by decide, by decide⟩ ⟨Nat.zero_le _, Nat.zero_le _⟩ dX4_comings_33 ?_
    refine r_istore (lv' := [(6, .int x33), (5, .int x23), (0, .ref a0), (1, .long s12.1), (3, .int s12.2.1), (4, .int s12.2.2)]) dX4_comings_36 (by decide) rfl ?_
    refine r_iload dX4_comings_38 1 rfl ?_
    refine r_iload_n dX4_comings_40 4 rfl ?_
    refine r_icmp_eq 59 dX4_comings_41 (by decide) (fun c41 => ?_) (fun c41 => ?_)
    · have h := Sat_pos c41 h
      exact r_sub [2, 3, 4, 5, 1, 0] rfl (J59 s12.1 s12.2.1 s12.2.2 x23 x33 h)
    · have h := Sat_neg c41 h
      refine r_lload_n dX4_comings_44 3 rfl ?_
      refine r_iload dX4_comings_45 1 rfl ?_
      refine r_iload_n dX4_comings_47 4 rfl ?_
      refine r_iconst (v := -1) dX4_comings_48 (by decide) ?_
      refine r_ixor dX4_comings_49 ?_
      refine r_iand dX4_comings_50 ?_
      refine r_iconst (v := 2) dX4_comings_51 (by decide) ?_
      refine r_iload dX4_comings_52 5 rfl ?_
      refine r_imul dX4_comings_54 ?_
      obtain ⟨x55, e55, h⟩ := Sat_bind h
      refine r_cS [.long s12.1, .int (x23 &&& (s12.2.1 ^^^ (-1 : Int32))), .int ((2 : Int32) * s12.2.2)] [] (m_X4_withMoment s12.1 (x23 &&& (s12.2.1 ^^^ (-1 : Int32))) ((2 : Int32) * s12.2.2) μ e55) ck_X4_withMoment lk_X4_148 st_X4_withMoment rfl rfl (Nat.le_of_ble_eq_true rfl) ⟨by decide, by decide⟩ ⟨Nat.zero_le _, Nat.zero_le _⟩ dX4_comings_55 ?_
      refine r_lstore_n (lv' := [(1, .long x55), (6, .int x33), (5, .int x23), (0, .ref a0), (3, .int s12.2.1), (4, .int s12.2.2)]) dX4_comings_58 rfl (by decide) rfl ?_
      exact r_sub [3, 0, 4, 5, 2, 1] rfl (J59 x55 s12.2.1 s12.2.2 x23 x33 h)
theorem dX1_findComingsBy_0 : decode cX1_findComingsBy 0 = .ok (.iconst 0, 1) := by decide +kernel
theorem dX1_findComingsBy_1 : decode cX1_findComingsBy 1 = .ok (.istore_n 3, 1) := by decide +kernel
theorem dX1_findComingsBy_2 : decode cX1_findComingsBy 2 = .ok (.iload_n 3, 1) := by decide +kernel
theorem dX1_findComingsBy_3 : decode cX1_findComingsBy 3 = .ok (.bipush 12, 2) := by decide +kernel
theorem dX1_findComingsBy_5 : decode cX1_findComingsBy 5 = .ok (.if_icmp .ge 60, 3) := by decide +kernel
theorem dX1_findComingsBy_8 : decode cX1_findComingsBy 8 = .ok (.iload_n 2, 1) := by decide +kernel
theorem dX1_findComingsBy_9 : decode cX1_findComingsBy 9 = .ok (.iload_n 3, 1) := by decide +kernel
theorem dX1_findComingsBy_10 : decode cX1_findComingsBy 10 = .ok (.ishr, 1) := by decide +kernel
theorem dX1_findComingsBy_11 : decode cX1_findComingsBy 11 = .ok (.ifCond .eq 54, 3) := by decide +kernel
theorem dX1_findComingsBy_14 : decode cX1_findComingsBy 14 = .ok (.iload_n 2, 1) := by decide +kernel
theorem dX1_findComingsBy_15 : decode cX1_findComingsBy 15 = .ok (.iload_n 3, 1) := by decide +kernel
theorem dX1_findComingsBy_16 : decode cX1_findComingsBy 16 = .ok (.ishr, 1) := by decide +kernel
theorem dX1_findComingsBy_17 : decode cX1_findComingsBy 17 = .ok (.iconst 1, 1) := by decide +kernel
theorem dX1_findComingsBy_18 : decode cX1_findComingsBy 18 = .ok (.iand, 1) := by decide +kernel
theorem dX1_findComingsBy_19 : decode cX1_findComingsBy 19 = .ok (.ifCond .eq 40, 3) := by decide +kernel
theorem dX1_findComingsBy_22 : decode cX1_findComingsBy 22 = .ok (.iload_n 1, 1) := by decide +kernel
theorem dX1_findComingsBy_23 : decode cX1_findComingsBy 23 = .ok (.aload_n 0, 1) := by decide +kernel
theorem dX1_findComingsBy_24 : decode cX1_findComingsBy 24 = .ok (.getfield 11, 3) := by decide +kernel
theorem dX1_findComingsBy_27 : decode cX1_findComingsBy 27 = .ok (.iload_n 3, 1) := by decide +kernel
theorem dX1_findComingsBy_28 : decode cX1_findComingsBy 28 = .ok (.aaload, 1) := by decide +kernel
theorem dX1_findComingsBy_29 : decode cX1_findComingsBy 29 = .ok (.arraylength, 1) := by decide +kernel
theorem dX1_findComingsBy_30 : decode cX1_findComingsBy 30 = .ok (.if_icmp .ge 29, 3) := by decide +kernel
theorem dX1_findComingsBy_33 : decode cX1_findComingsBy 33 = .ok (.aload_n 0, 1) := by decide +kernel
theorem dX1_findComingsBy_34 : decode cX1_findComingsBy 34 = .ok (.getfield 35, 3) := by decide +kernel
theorem dX1_findComingsBy_37 : decode cX1_findComingsBy 37 = .ok (.iload_n 3, 1) := by decide +kernel
theorem dX1_findComingsBy_38 : decode cX1_findComingsBy 38 = .ok (.bipush 7, 2) := by decide +kernel
theorem dX1_findComingsBy_40 : decode cX1_findComingsBy 40 = .ok (.iconst 0, 1) := by decide +kernel
theorem dX1_findComingsBy_41 : decode cX1_findComingsBy 41 = .ok (.invokevirtual 102, 3) := by decide +kernel
theorem dX1_findComingsBy_44 : decode cX1_findComingsBy 44 = .ok (.aload_n 0, 1) := by decide +kernel
theorem dX1_findComingsBy_45 : decode cX1_findComingsBy 45 = .ok (.getfield 11, 3) := by decide +kernel
theorem dX1_findComingsBy_48 : decode cX1_findComingsBy 48 = .ok (.iload_n 3, 1) := by decide +kernel
theorem dX1_findComingsBy_49 : decode cX1_findComingsBy 49 = .ok (.aaload, 1) := by decide +kernel
theorem dX1_findComingsBy_50 : decode cX1_findComingsBy 50 = .ok (.iload_n 1, 1) := by decide +kernel
theorem dX1_findComingsBy_51 : decode cX1_findComingsBy 51 = .ok (.aload_n 0, 1) := by decide +kernel
theorem dX1_findComingsBy_52 : decode cX1_findComingsBy 52 = .ok (.getfield 35, 3) := by decide +kernel
theorem dX1_findComingsBy_55 : decode cX1_findComingsBy 55 = .ok (.invokevirtual 106, 3) := by decide +kernel
theorem dX1_findComingsBy_58 : decode cX1_findComingsBy 58 = .ok (.lastore, 1) := by decide +kernel
theorem dX1_findComingsBy_59 : decode cX1_findComingsBy 59 = .ok (.iinc 3 1, 3) := by decide +kernel
theorem dX1_findComingsBy_62 : decode cX1_findComingsBy 62 = .ok (.goto (-60), 3) := by decide +kernel
theorem dX1_findComingsBy_65 : decode cX1_findComingsBy 65 = .ok (.return_, 1) := by decide +kernel
noncomputable def f_X1_findComingsBy_J59 (a0 : Nat) (l1 : Int32) (l2 : Int32) (l3 : Int32) (μ : Mm) : Option ((Int32 × Mm) ⊕ (Mm)) :=
  (some (l3 + (1 : Int32))).bind fun v59 => some (.inl (v59, μ))
noncomputable def f_X1_findComingsBy_L2 (a0 : Nat) (l1 : Int32) (l2 : Int32) (s2 : Int32 × Mm) : Option ((Int32 × Mm) ⊕ (Mm)) :=
  if (12 : Int32) ≤ s2.1 then some (.inr s2.2) else if (l2 >>> (s2.1 &&& 31)) = 0 then some (.inr s2.2) else if ((l2 >>> (s2.1 &&& 31)) &&& (1 : Int32)) = 0 then f_X1_findComingsBy_J59 a0 l1 l2 s2.1 s2.2 else (gf_P 2 2 a0 s2.2).bind fun x24 => (ga_P 25 x24 s2.1 s2.2).bind fun x28 => (ga_len x28 s2.2).bind fun x29 => if x29 ≤ l1 then f_X1_findComingsBy_J59 a0 l1 l2 s2.1 s2.2 else (gf_P 2 0 a0 s2.2).bind fun x34 => (f_X4_setFact x34 s2.1 (7 : Int32) (0 : Int32) s2.2).bind fun x41 => (gf_P 2 2 a0 x41).bind fun x45 => (ga_P 25 x45 s2.1 x41).bind fun x49 => (gf_P 2 0 a0 x41).bind fun x52 => (f_X4_comings x52 x41).bind fun x55 => (pa_L x49 l1 x55 x41).bind fun μ58 => f_X1_findComingsBy_J59 a0 l1 l2 s2.1 μ58
noncomputable def f_X1_findComingsBy (a0 : Nat) (l1 : Int32) (l2 : Int32) (μ : Mm) : Option Mm :=
  if (mm_K μ a0).1 = 2 then (whl (f_X1_findComingsBy_L2 a0 l1 l2) ((0 : Int32), μ)).bind (fun b2 => some b2) else none
abbrev Rn_X1_findComingsBy (G : Gv) (Q : Option Value → Mm → Prop) (pc : Nat) (lv : List (Nat × Value)) (st : List Value) (μ : Mm) : Prop := Rn G RX1 cX1_findComingsBy 4 none "findComingsBy" (rmd 3 0 0) (Zm G 0 0 Q) 0 0 pc lv st μ
set_option maxRecDepth 100000 in
set_option maxHeartbeats 4000000 in
theorem m_X1_findComingsBy {G : Gv} (a0 : Nat) (l1 : Int32) (l2 : Int32) (μ : Mm) {r : Mm} (hx : f_X1_findComingsBy a0 l1 l2 μ = some r) : Mt G yX1_findComingsBy cX1_findComingsBy 4 none 3 0 0 [.ref a0, .int l1, .int l2] μ (fun v μ' => v = none ∧ μ' = r) := by
  refine Mt.of (by decide) (Nat.le_of_ble_eq_true rfl) ?_
  show Rn_X1_findComingsBy G (fun v μ' => v = none ∧ μ' = r) 0 [(0, .ref a0), (1, .int l1), (2, .int l2)] [] μ
  obtain ⟨_, h⟩ := Sat_ifp (show Sat (f_X1_findComingsBy a0 l1 l2 μ) (fun x => x = r) from ⟨_, hx, rfl⟩)
  refine r_iconst (v := 0) dX1_findComingsBy_0 (by decide) ?_
  refine r_istore_n (lv' := [(3, .int (0 : Int32)), (0, .ref a0), (1, .int l1), (2, .int l2)]) dX1_findComingsBy_1 rfl (by decide) rfl ?_
  refine r_sub (lv' := [(0, .ref a0), (1, .int l1), (2, .int l2), (3, .int (0 : Int32))]) [1, 2, 3, 0] rfl ?_
  refine whl_K (s0 := (((0 : Int32), μ) : Int32 × Mm)) (RR := fun (s2 : Int32 × Mm) => Rn_X1_findComingsBy G (fun v μ' => v = none ∧ μ' = r) 2 [(0, .ref a0), (1, .int l1), (2, .int l2), (3, .int s2.1)] [] s2.2) ?_ (Sat_bindK h)
  intro s2 K2 hI2 hX2 h
  have J59 : ∀ (l3_59 : Int32) (μ_59 : Mm), Sat (f_X1_findComingsBy_J59 a0 l1 l2 l3_59 μ_59) K2 → Rn_X1_findComingsBy G (fun v μ' => v = none ∧ μ' = r) 59 [(0, .ref a0), (1, .int l1), (2, .int l2), (3, .int l3_59)] [] μ_59 := by
    intro l3_59 μ_59 h
    obtain ⟨v59, e59, h⟩ := Sat_bind h
    refine r_iinc (j := 3) (v := v59) (lv' := [(3, .int v59), (0, .ref a0), (1, .int l1), (2, .int l2)]) dX1_findComingsBy_59 rfl (iinc_v e59 (by decide)) (by decide) rfl ?_
    refine r_goto 2 dX1_findComingsBy_62 (by decide) ?_
    exact r_sub [1, 2, 3, 0] rfl (hI2 _ (Sat_some h))
  refine r_iload_n dX1_findComingsBy_2 3 rfl ?_
  refine r_bipush (v := 12) dX1_findComingsBy_3 (by decide) ?_
  refine r_icmp_ge 65 dX1_findComingsBy_5 (by decide) (fun c5 => ?_) (fun c5 => ?_)
  · have h := Sat_pos c5 h
    have h := hX2 _ (Sat_some h)
    exact r_vreturn rfl (by rw [← Sat_eq h]; exact ⟨rfl, rfl⟩) dX1_findComingsBy_65
  · have h := Sat_neg c5 h
    refine r_iload_n dX1_findComingsBy_8 2 rfl ?_
    refine r_iload_n dX1_findComingsBy_9 3 rfl ?_
    refine r_ishr dX1_findComingsBy_10 ?_
    refine r_if_eq 65 dX1_findComingsBy_11 (by decide) (fun c11 => ?_) (fun c11 => ?_)
    · have h := Sat_pos c11 h
      have h := hX2 _ (Sat_some h)
      exact r_vreturn rfl (by rw [← Sat_eq h]; exact ⟨rfl, rfl⟩) dX1_findComingsBy_65
    · have h := Sat_neg c11 h
      refine r_iload_n dX1_findComingsBy_14 2 rfl ?_
      refine r_iload_n dX1_findComingsBy_15 3 rfl ?_
      refine r_ishr dX1_findComingsBy_16 ?_
      refine r_iconst (v := 1) dX1_findComingsBy_17 (by decide) ?_
      refine r_iand dX1_findComingsBy_18 ?_
      refine r_if_eq 59 dX1_findComingsBy_19 (by decide) (fun c19 => ?_) (fun c19 => ?_)
      · have h := Sat_pos c19 h
        exact r_sub [0, 1, 2, 3] rfl (J59 s2.1 s2.2 h)
      · have h := Sat_neg c19 h
        refine r_iload_n dX1_findComingsBy_22 1 rfl ?_
        refine r_aload_n dX1_findComingsBy_23 0 rfl ?_
        obtain ⟨x24, e24, h⟩ := Sat_bind h
        refine r_getP fk_X1_11 rfl e24 dX1_findComingsBy_24 ?_
        refine r_iload_n dX1_findComingsBy_27 3 rfl ?_
        obtain ⟨x28, e28, h⟩ := Sat_bind h
        refine r_aaload (Or.inr rfl) e28 dX1_findComingsBy_28 ?_
        obtain ⟨x29, e29, h⟩ := Sat_bind h
        refine r_len e29 dX1_findComingsBy_29 ?_
        refine r_icmp_ge 59 dX1_findComingsBy_30 (by decide) (fun c30 => ?_) (fun c30 => ?_)
        · have h := Sat_pos c30 h
          exact r_sub [0, 1, 2, 3] rfl (J59 s2.1 s2.2 h)
        · have h := Sat_neg c30 h
          refine r_aload_n dX1_findComingsBy_33 0 rfl ?_
          obtain ⟨x34, e34, h⟩ := Sat_bind h
          refine r_getP fk_X1_35 rfl e34 dX1_findComingsBy_34 ?_
          refine r_iload_n dX1_findComingsBy_37 3 rfl ?_
          refine r_bipush (v := 7) dX1_findComingsBy_38 (by decide) ?_
          refine r_iconst (v := 0) dX1_findComingsBy_40 (by decide) ?_
          obtain ⟨x41, e41, h⟩ := Sat_bind h
          refine r_cV (t := 5) [.int s2.1, .int (7 : Int32), .int (0 : Int32)] [] (m_X4_setFact x34 s2.1 (7 : Int32) (0 : Int32) s2.2 e41) ck_X4_setFact lk_X1_102 in_X4_setFact se_X4_setFact (kd_of e41) ⟨rfl, by decide, by decide⟩ rfl rfl (Nat.le_of_ble_eq_true rfl) ⟨by decide, by decide⟩ ⟨Nat.zero_le _, Nat.zero_le _⟩ dX1_findComingsBy_41 ?_
          refine r_aload_n dX1_findComingsBy_44 0 rfl ?_
          obtain ⟨x45, e45, h⟩ := Sat_bind h
          refine r_getP fk_X1_11 rfl e45 dX1_findComingsBy_45 ?_
          refine r_iload_n dX1_findComingsBy_48 3 rfl ?_
          obtain ⟨x49, e49, h⟩ := Sat_bind h
          refine r_aaload (Or.inr rfl) e49 dX1_findComingsBy_49 ?_
          refine r_iload_n dX1_findComingsBy_50 1 rfl ?_
          refine r_aload_n dX1_findComingsBy_51 0 rfl ?_
          obtain ⟨x52, e52, h⟩ := Sat_bind h
          refine r_getP fk_X1_35 rfl e52 dX1_findComingsBy_52 ?_
          obtain ⟨x55, e55, h⟩ := Sat_bind h
          refine r_cV (t := 5) [] [.int l1, .ref x49] (m_X4_comings x52 x41 e55) ck_X4_comings lk_X1_106 in_X4_comings se_X4_comings (kd_of e55) ⟨rfl, by decide, by decide⟩ rfl rfl (Nat.le_of_ble_eq_true rfl) ⟨by decide, by decide⟩ ⟨Nat.zero_le _, Nat.zero_le _⟩ dX1_findComingsBy_55 ?_
          obtain ⟨μ58, e58, h⟩ := Sat_bind h
          refine r_lastore e58 dX1_findComingsBy_58 ?_
          exact r_sub [0, 1, 2, 3] rfl (J59 s2.1 μ58 h)
theorem dX1_roomFor_0 : decode cX1_roomFor 0 = .ok (.iload_n 1, 1) := by decide +kernel
theorem dX1_roomFor_1 : decode cX1_roomFor 1 = .ok (.iconst 2, 1) := by decide +kernel
theorem dX1_roomFor_2 : decode cX1_roomFor 2 = .ok (.iload_n 0, 1) := by decide +kernel
theorem dX1_roomFor_3 : decode cX1_roomFor 3 = .ok (.imul, 1) := by decide +kernel
theorem dX1_roomFor_4 : decode cX1_roomFor 4 = .ok (.sipush 14833, 3) := by decide +kernel
theorem dX1_roomFor_7 : decode cX1_roomFor 7 = .ok (.invokestatic 54, 3) := by decide +kernel
theorem dX1_roomFor_10 : decode cX1_roomFor 10 = .ok (.invokestatic 60, 3) := by decide +kernel
theorem dX1_roomFor_13 : decode cX1_roomFor 13 = .ok (.ireturn, 1) := by decide +kernel
noncomputable def f_X1_roomFor (l0 : Int32) (l1 : Int32) (μ : Mm) : Option Int32 :=
  some (if l1 < (if (14833 : Int32) < ((2 : Int32) * l0) then (14833 : Int32) else ((2 : Int32) * l0)) then (if (14833 : Int32) < ((2 : Int32) * l0) then (14833 : Int32) else ((2 : Int32) * l0)) else l1)
abbrev Rn_X1_roomFor (G : Gv) (Q : Option Value → Mm → Prop) (pc : Nat) (lv : List (Nat × Value)) (st : List Value) (μ : Mm) : Prop := Rn G RX1 cX1_roomFor 2 (some .int) "roomFor" (rmd 1 0 0) (Zm G 0 0 Q) 0 0 pc lv st μ
set_option maxRecDepth 100000 in
set_option maxHeartbeats 4000000 in
theorem m_X1_roomFor {G : Gv} (l0 : Int32) (l1 : Int32) (μ : Mm) {r : Int32} (hx : f_X1_roomFor l0 l1 μ = some r) : Mt G yX1_roomFor cX1_roomFor 2 (some .int) 1 0 0 [.int l0, .int l1] μ (fun v μ' => v = some (.int r) ∧ μ' = μ) := by
  refine Mt.of (by decide) (Nat.le_of_ble_eq_true rfl) ?_
  show Rn_X1_roomFor G (fun v μ' => v = some (.int r) ∧ μ' = μ) 0 [(0, .int l0), (1, .int l1)] [] μ
  have h : Sat (f_X1_roomFor l0 l1 μ) (fun x => x = r) := ⟨_, hx, rfl⟩
  refine r_iload_n dX1_roomFor_0 1 rfl ?_
  refine r_iconst (v := 2) dX1_roomFor_1 (by decide) ?_
  refine r_iload_n dX1_roomFor_2 0 rfl ?_
  refine r_imul dX1_roomFor_3 ?_
  refine r_sipush (v := 14833) dX1_roomFor_4 (by decide) ?_
  refine r_mmin mmin_X1_54 mx_st_min mx_ii mx_co_min (Nat.le_of_ble_eq_true rfl) ⟨by decide, by decide⟩ ⟨by decide, by decide⟩ dX1_roomFor_7 ?_
  refine r_mmax mmax_X1_60 mx_st_max mx_ii mx_co_max (Nat.le_of_ble_eq_true rfl) ⟨by decide, by decide⟩ ⟨by decide, by decide⟩ dX1_roomFor_10 ?_
  exact r_ireturn rfl (by rw [← Sat_eq h]; exact ⟨rfl, rfl⟩) dX1_roomFor_13
theorem dX9_withDream_0 : decode cX9_withDream 0 = .ok (.iconst 4, 1) := by decide +kernel
theorem dX9_withDream_1 : decode cX9_withDream 1 = .ok (.iload_n 1, 1) := by decide +kernel
theorem dX9_withDream_2 : decode cX9_withDream 2 = .ok (.imul, 1) := by decide +kernel
theorem dX9_withDream_3 : decode cX9_withDream 3 = .ok (.istore_n 3, 1) := by decide +kernel
theorem dX9_withDream_4 : decode cX9_withDream 4 = .ok (.iload_n 0, 1) := by decide +kernel
theorem dX9_withDream_5 : decode cX9_withDream 5 = .ok (.bipush 15, 2) := by decide +kernel
theorem dX9_withDream_7 : decode cX9_withDream 7 = .ok (.iload_n 3, 1) := by decide +kernel
theorem dX9_withDream_8 : decode cX9_withDream 8 = .ok (.ishl, 1) := by decide +kernel
theorem dX9_withDream_9 : decode cX9_withDream 9 = .ok (.iconst (-1), 1) := by decide +kernel
theorem dX9_withDream_10 : decode cX9_withDream 10 = .ok (.ixor, 1) := by decide +kernel
theorem dX9_withDream_11 : decode cX9_withDream 11 = .ok (.iand, 1) := by decide +kernel
theorem dX9_withDream_12 : decode cX9_withDream 12 = .ok (.iload_n 2, 1) := by decide +kernel
theorem dX9_withDream_13 : decode cX9_withDream 13 = .ok (.bipush 15, 2) := by decide +kernel
theorem dX9_withDream_15 : decode cX9_withDream 15 = .ok (.iand, 1) := by decide +kernel
theorem dX9_withDream_16 : decode cX9_withDream 16 = .ok (.iload_n 3, 1) := by decide +kernel
theorem dX9_withDream_17 : decode cX9_withDream 17 = .ok (.ishl, 1) := by decide +kernel
theorem dX9_withDream_18 : decode cX9_withDream 18 = .ok (.ior, 1) := by decide +kernel
theorem dX9_withDream_19 : decode cX9_withDream 19 = .ok (.ireturn, 1) := by decide +kernel
noncomputable def f_X9_withDream (l0 : Int32) (l1 : Int32) (l2 : Int32) (μ : Mm) : Option Int32 :=
  (some ((4 : Int32) * l1)).bind fun v3 => some ((l0 &&& (((15 : Int32) <<< (v3 &&& 31)) ^^^ (-1 : Int32))) ||| ((l2 &&& (15 : Int32)) <<< (v3 &&& 31)))
abbrev Rn_X9_withDream (G : Gv) (Q : Option Value → Mm → Prop) (pc : Nat) (lv : List (Nat × Value)) (st : List Value) (μ : Mm) : Prop := Rn G RX9 cX9_withDream 4 (some .int) "withDream" (rmd 0 0 0) (Zm G 0 0 Q) 0 0 pc lv st μ
set_option maxRecDepth 100000 in
set_option maxHeartbeats 4000000 in
theorem m_X9_withDream {G : Gv} (l0 : Int32) (l1 : Int32) (l2 : Int32) (μ : Mm) {r : Int32} (hx : f_X9_withDream l0 l1 l2 μ = some r) : Mt G yX9_withDream cX9_withDream 4 (some .int) 0 0 0 [.int l0, .int l1, .int l2] μ (fun v μ' => v = some (.int r) ∧ μ' = μ) := by
  refine Mt.of (by decide) (Nat.le_of_ble_eq_true rfl) ?_
  show Rn_X9_withDream G (fun v μ' => v = some (.int r) ∧ μ' = μ) 0 [(0, .int l0), (1, .int l1), (2, .int l2)] [] μ
  have h : Sat (f_X9_withDream l0 l1 l2 μ) (fun x => x = r) := ⟨_, hx, rfl⟩
  refine r_iconst (v := 4) dX9_withDream_0 (by decide) ?_
  refine r_iload_n dX9_withDream_1 1 rfl ?_
  refine r_imul dX9_withDream_2 ?_
  obtain ⟨v3, e3, h⟩ := Sat_bind h
  refine r_topi (Option.some.inj e3) ?_
  refine r_istore_n (lv' := [(3, .int v3), (0, .int l0), (1, .int l1), (2, .int l2)]) dX9_withDream_3 rfl (by decide) rfl ?_
  refine r_iload_n dX9_withDream_4 1 rfl ?_
  refine r_bipush (v := 15) dX9_withDream_5 (by decide) ?_
  refine r_iload_n dX9_withDream_7 0 rfl ?_
  refine r_ishl dX9_withDream_8 ?_
  refine r_iconst (v := -1) dX9_withDream_9 (by decide) ?_
  refine r_ixor dX9_withDream_10 ?_
  refine r_iand dX9_withDream_11 ?_
  refine r_iload_n dX9_withDream_12 3 rfl ?_
  refine r_bipush (v := 15) dX9_withDream_13 (by decide) ?_
  refine r_iand dX9_withDream_15 ?_
  refine r_iload_n dX9_withDream_16 0 rfl ?_
  refine r_ishl dX9_withDream_17 ?_
  refine r_ior dX9_withDream_18 ?_
  exact r_ireturn rfl (by rw [← Sat_eq h]; exact ⟨rfl, rfl⟩) dX9_withDream_19
theorem dX9_fillFrom_0 : decode cX9_fillFrom 0 = .ok (.iload_n 1, 1) := by decide +kernel
theorem dX9_fillFrom_1 : decode cX9_fillFrom 1 = .ok (.aload_n 0, 1) := by decide +kernel
theorem dX9_fillFrom_2 : decode cX9_fillFrom 2 = .ok (.getfield 21, 3) := by decide +kernel
theorem dX9_fillFrom_5 : decode cX9_fillFrom 5 = .ok (.if_icmp .ge 9, 3) := by decide +kernel
theorem dX9_fillFrom_8 : decode cX9_fillFrom 8 = .ok (.iload_n 1, 1) := by decide +kernel
theorem dX9_fillFrom_9 : decode cX9_fillFrom 9 = .ok (.bipush 8, 2) := by decide +kernel
theorem dX9_fillFrom_11 : decode cX9_fillFrom 11 = .ok (.if_icmp .lt 22, 3) := by decide +kernel
theorem dX9_fillFrom_14 : decode cX9_fillFrom 14 = .ok (.iload 5, 2) := by decide +kernel
theorem dX9_fillFrom_16 : decode cX9_fillFrom 16 = .ok (.aload 4, 2) := by decide +kernel
theorem dX9_fillFrom_18 : decode cX9_fillFrom 18 = .ok (.arraylength, 1) := by decide +kernel
theorem dX9_fillFrom_19 : decode cX9_fillFrom 19 = .ok (.if_icmp .ge 9, 3) := by decide +kernel
theorem dX9_fillFrom_22 : decode cX9_fillFrom 22 = .ok (.aload 4, 2) := by decide +kernel
theorem dX9_fillFrom_24 : decode cX9_fillFrom 24 = .ok (.iload 5, 2) := by decide +kernel
theorem dX9_fillFrom_26 : decode cX9_fillFrom 26 = .ok (.iload_n 3, 1) := by decide +kernel
theorem dX9_fillFrom_27 : decode cX9_fillFrom 27 = .ok (.iastore, 1) := by decide +kernel
theorem dX9_fillFrom_28 : decode cX9_fillFrom 28 = .ok (.iload 5, 2) := by decide +kernel
theorem dX9_fillFrom_30 : decode cX9_fillFrom 30 = .ok (.iconst 1, 1) := by decide +kernel
theorem dX9_fillFrom_31 : decode cX9_fillFrom 31 = .ok (.iadd, 1) := by decide +kernel
theorem dX9_fillFrom_32 : decode cX9_fillFrom 32 = .ok (.ireturn, 1) := by decide +kernel
theorem dX9_fillFrom_33 : decode cX9_fillFrom 33 = .ok (.aload_n 0, 1) := by decide +kernel
theorem dX9_fillFrom_34 : decode cX9_fillFrom 34 = .ok (.getfield 9, 3) := by decide +kernel
theorem dX9_fillFrom_37 : decode cX9_fillFrom 37 = .ok (.iload_n 1, 1) := by decide +kernel
theorem dX9_fillFrom_38 : decode cX9_fillFrom 38 = .ok (.iaload, 1) := by decide +kernel
theorem dX9_fillFrom_39 : decode cX9_fillFrom 39 = .ok (.istore 6, 2) := by decide +kernel
theorem dX9_fillFrom_41 : decode cX9_fillFrom 41 = .ok (.aload_n 0, 1) := by decide +kernel
theorem dX9_fillFrom_42 : decode cX9_fillFrom 42 = .ok (.getfield 15, 3) := by decide +kernel
theorem dX9_fillFrom_45 : decode cX9_fillFrom 45 = .ok (.iload 6, 2) := by decide +kernel
theorem dX9_fillFrom_47 : decode cX9_fillFrom 47 = .ok (.iaload, 1) := by decide +kernel
theorem dX9_fillFrom_48 : decode cX9_fillFrom 48 = .ok (.iload_n 2, 1) := by decide +kernel
theorem dX9_fillFrom_49 : decode cX9_fillFrom 49 = .ok (.iconst (-1), 1) := by decide +kernel
theorem dX9_fillFrom_50 : decode cX9_fillFrom 50 = .ok (.ixor, 1) := by decide +kernel
theorem dX9_fillFrom_51 : decode cX9_fillFrom 51 = .ok (.iand, 1) := by decide +kernel
theorem dX9_fillFrom_52 : decode cX9_fillFrom 52 = .ok (.istore 7, 2) := by decide +kernel
theorem dX9_fillFrom_54 : decode cX9_fillFrom 54 = .ok (.iload 5, 2) := by decide +kernel
theorem dX9_fillFrom_56 : decode cX9_fillFrom 56 = .ok (.istore 8, 2) := by decide +kernel
theorem dX9_fillFrom_58 : decode cX9_fillFrom 58 = .ok (.iconst 0, 1) := by decide +kernel
theorem dX9_fillFrom_59 : decode cX9_fillFrom 59 = .ok (.istore 9, 2) := by decide +kernel
theorem dX9_fillFrom_61 : decode cX9_fillFrom 61 = .ok (.iload 9, 2) := by decide +kernel
theorem dX9_fillFrom_63 : decode cX9_fillFrom 63 = .ok (.bipush 8, 2) := by decide +kernel
theorem dX9_fillFrom_65 : decode cX9_fillFrom 65 = .ok (.if_icmp .ge 60, 3) := by decide +kernel
theorem dX9_fillFrom_68 : decode cX9_fillFrom 68 = .ok (.iload_n 2, 1) := by decide +kernel
theorem dX9_fillFrom_69 : decode cX9_fillFrom 69 = .ok (.iconst 1, 1) := by decide +kernel
theorem dX9_fillFrom_70 : decode cX9_fillFrom 70 = .ok (.iload 9, 2) := by decide +kernel
theorem dX9_fillFrom_72 : decode cX9_fillFrom 72 = .ok (.ishl, 1) := by decide +kernel
theorem dX9_fillFrom_73 : decode cX9_fillFrom 73 = .ok (.ior, 1) := by decide +kernel
theorem dX9_fillFrom_74 : decode cX9_fillFrom 74 = .ok (.istore 10, 2) := by decide +kernel
theorem dX9_fillFrom_76 : decode cX9_fillFrom 76 = .ok (.iload 7, 2) := by decide +kernel
theorem dX9_fillFrom_78 : decode cX9_fillFrom 78 = .ok (.iload 9, 2) := by decide +kernel
theorem dX9_fillFrom_80 : decode cX9_fillFrom 80 = .ok (.ishr, 1) := by decide +kernel
theorem dX9_fillFrom_81 : decode cX9_fillFrom 81 = .ok (.iconst 1, 1) := by decide +kernel
theorem dX9_fillFrom_82 : decode cX9_fillFrom 82 = .ok (.iand, 1) := by decide +kernel
theorem dX9_fillFrom_83 : decode cX9_fillFrom 83 = .ok (.ifCond .eq 36, 3) := by decide +kernel
theorem dX9_fillFrom_86 : decode cX9_fillFrom 86 = .ok (.aload_n 0, 1) := by decide +kernel
theorem dX9_fillFrom_87 : decode cX9_fillFrom 87 = .ok (.getfield 18, 3) := by decide +kernel
theorem dX9_fillFrom_90 : decode cX9_fillFrom 90 = .ok (.iload 10, 2) := by decide +kernel
theorem dX9_fillFrom_92 : decode cX9_fillFrom 92 = .ok (.iaload, 1) := by decide +kernel
theorem dX9_fillFrom_93 : decode cX9_fillFrom 93 = .ok (.ifCond .le 26, 3) := by decide +kernel
theorem dX9_fillFrom_96 : decode cX9_fillFrom 96 = .ok (.aload_n 0, 1) := by decide +kernel
theorem dX9_fillFrom_97 : decode cX9_fillFrom 97 = .ok (.iload_n 1, 1) := by decide +kernel
theorem dX9_fillFrom_98 : decode cX9_fillFrom 98 = .ok (.iconst 1, 1) := by decide +kernel
theorem dX9_fillFrom_99 : decode cX9_fillFrom 99 = .ok (.iadd, 1) := by decide +kernel
theorem dX9_fillFrom_100 : decode cX9_fillFrom 100 = .ok (.iload 10, 2) := by decide +kernel
theorem dX9_fillFrom_102 : decode cX9_fillFrom 102 = .ok (.iload_n 3, 1) := by decide +kernel
theorem dX9_fillFrom_103 : decode cX9_fillFrom 103 = .ok (.iload 6, 2) := by decide +kernel
theorem dX9_fillFrom_105 : decode cX9_fillFrom 105 = .ok (.iload 9, 2) := by decide +kernel
theorem dX9_fillFrom_107 : decode cX9_fillFrom 107 = .ok (.invokestatic 52, 3) := by decide +kernel
theorem dX9_fillFrom_110 : decode cX9_fillFrom 110 = .ok (.aload 4, 2) := by decide +kernel
theorem dX9_fillFrom_112 : decode cX9_fillFrom 112 = .ok (.iload 8, 2) := by decide +kernel
theorem dX9_fillFrom_114 : decode cX9_fillFrom 114 = .ok (.invokevirtual 60, 3) := by decide +kernel
theorem dX9_fillFrom_117 : decode cX9_fillFrom 117 = .ok (.istore 8, 2) := by decide +kernel
theorem dX9_fillFrom_119 : decode cX9_fillFrom 119 = .ok (.iinc 9 1, 3) := by decide +kernel
theorem dX9_fillFrom_122 : decode cX9_fillFrom 122 = .ok (.goto (-61), 3) := by decide +kernel
theorem dX9_fillFrom_125 : decode cX9_fillFrom 125 = .ok (.iload 8, 2) := by decide +kernel
theorem dX9_fillFrom_127 : decode cX9_fillFrom 127 = .ok (.ireturn, 1) := by decide +kernel
noncomputable def f_X9_fillFrom_J14 (self : Nat → Int32 → Int32 → Int32 → Nat → Int32 → Mm → Option (Int32 × Mm)) (l3 : Int32) (l4 : Nat) (l5 : Int32) (μ : Mm) : Option (Int32 × Mm) :=
  (ga_len l4 μ).bind fun x18 => if x18 ≤ l5 then some (l5 + (1 : Int32), μ) else (pa_I l4 l5 l3 μ).bind fun μ27 => some (l5 + (1 : Int32), μ27)
noncomputable def f_X9_fillFrom_J119 (self : Nat → Int32 → Int32 → Int32 → Nat → Int32 → Mm → Option (Int32 × Mm)) (a0 : Nat) (l1 : Int32) (l2 : Int32) (l3 : Int32) (l4 : Nat) (l6 : Int32) (l7 : Int32) (l8 : Int32) (l9 : Int32) (μ : Mm) : Option ((Int32 × Int32 × Mm) ⊕ (Int32 × Mm)) :=
  (some (l9 + (1 : Int32))).bind fun v119 => some (.inl (l8, v119, μ))
noncomputable def f_X9_fillFrom_L61 (self : Nat → Int32 → Int32 → Int32 → Nat → Int32 → Mm → Option (Int32 × Mm)) (a0 : Nat) (l1 : Int32) (l2 : Int32) (l3 : Int32) (l4 : Nat) (l6 : Int32) (l7 : Int32) (s61 : Int32 × Int32 × Mm) : Option ((Int32 × Int32 × Mm) ⊕ (Int32 × Mm)) :=
  if (8 : Int32) ≤ s61.2.1 then some (.inr (s61.1, s61.2.2)) else (some (l2 ||| ((1 : Int32) <<< (s61.2.1 &&& 31)))).bind fun v74 => if ((l7 >>> (s61.2.1 &&& 31)) &&& (1 : Int32)) = 0 then f_X9_fillFrom_J119 self a0 l1 l2 l3 l4 l6 l7 s61.1 s61.2.1 s61.2.2 else (gf_P 10 2 a0 s61.2.2).bind fun x87 => (ga_I x87 v74 s61.2.2).bind fun x92 => if x92 ≤ 0 then f_X9_fillFrom_J119 self a0 l1 l2 l3 l4 l6 l7 s61.1 s61.2.1 s61.2.2 else (f_X9_withDream l3 l6 s61.2.1 s61.2.2).bind fun x107 => (self a0 (l1 + (1 : Int32)) v74 x107 l4 s61.1 s61.2.2).bind fun x114 => f_X9_fillFrom_J119 self a0 l1 l2 l3 l4 l6 l7 x114.1 s61.2.1 x114.2
noncomputable def f_X9_fillFrom_B (self : Nat → Int32 → Int32 → Int32 → Nat → Int32 → Mm → Option (Int32 × Mm)) (a0 : Nat) (l1 : Int32) (l2 : Int32) (l3 : Int32) (l4 : Nat) (l5 : Int32) (μ : Mm) : Option (Int32 × Mm) :=
  if (mm_K μ a0).1 = 10 then (gf_I 10 3 a0 μ).bind fun x2 => if x2 ≤ l1 then f_X9_fillFrom_J14 self l3 l4 l5 μ else if l1 < (8 : Int32) then (gf_P 10 0 a0 μ).bind fun x34 => (ga_I x34 l1 μ).bind fun x38 => (gf_P 10 1 a0 μ).bind fun x42 => (ga_I x42 x38 μ).bind fun x47 => (some (x47 &&& (l2 ^^^ (-1 : Int32)))).bind fun v52 => (whl (f_X9_fillFrom_L61 self a0 l1 l2 l3 l4 x38 v52) (l5, (0 : Int32), μ)).bind (fun b61 => some (b61.1, b61.2)) else f_X9_fillFrom_J14 self l3 l4 l5 μ else none
noncomputable def f_X9_fillFrom : Nat → Nat → Int32 → Int32 → Int32 → Nat → Int32 → Mm → Option (Int32 × Mm)
  | 0 => fun _ _ _ _ _ _ _ => none
  | n + 1 => f_X9_fillFrom_B (f_X9_fillFrom n)
abbrev Rn_X9_fillFrom (G : Gv) (Q : Option Value → Mm → Prop) (dd : Nat) (pc : Nat) (lv : List (Nat × Value)) (st : List Value) (μ : Mm) : Prop := Rn G RX9 cX9_fillFrom 11 (some .int) "fillFrom" (rmd (1 + dd) 0 0) (Zm G 0 0 Q) 0 0 pc lv st μ
theorem kd_X9_fillFrom {n : Nat} {a0 : Nat} {l1 : Int32} {l2 : Int32} {l3 : Int32} {l4 : Nat} {l5 : Int32} {μ : Mm} {r : (Int32 × Mm)} (h : f_X9_fillFrom n a0 l1 l2 l3 l4 l5 μ = some r) : (mm_K μ a0).1 = 10 := by
  cases n with
  | zero => cases h
  | succ n => exact kd_of h
set_option maxRecDepth 100000 in
set_option maxHeartbeats 4000000 in
theorem m_X9_fillFrom {G : Gv} : ∀ (nn : Nat) (a0 : Nat) (l1 : Int32) (l2 : Int32) (l3 : Int32) (l4 : Nat) (l5 : Int32) (μ : Mm) {r : (Int32 × Mm)} (hx : f_X9_fillFrom nn a0 l1 l2 l3 l4 l5 μ = some r), Mt G yX9_fillFrom cX9_fillFrom 11 (some .int) (1 + nn) 0 0 [.ref a0, .int l1, .int l2, .int l3, .ref l4, .int l5] μ (fun v μ' => v = some (.int r.1) ∧ μ' = r.2) := by
  intro nn
  induction nn with
  | zero => intro a0 l1 l2 l3 l4 l5 μ r hx; cases hx
  | succ nn ih =>
    intro a0 l1 l2 l3 l4 l5 μ r hx
    obtain ⟨dd, hdd⟩ : ∃ dd, dd = nn + 1 := ⟨_, rfl⟩
    rw [← hdd]
    refine Mt.of (by decide) (Nat.le_of_ble_eq_true rfl) ?_
    show Rn_X9_fillFrom G (fun v μ' => v = some (.int r.1) ∧ μ' = r.2) dd 0 [(0, .ref a0), (1, .int l1), (2, .int l2), (3, .int l3), (4, .ref l4), (5, .int l5)] [] μ
    obtain ⟨_, h⟩ := Sat_ifp (show Sat (f_X9_fillFrom (nn + 1) a0 l1 l2 l3 l4 l5 μ) (fun x => x = r) from ⟨_, hx, rfl⟩)
    have J14 : ∀ (l3_14 : Int32) (l4_14 : Nat) (l5_14 : Int32) (μ_14 : Mm), Sat (f_X9_fillFrom_J14 (f_X9_fillFrom nn) l3_14 l4_14 l5_14 μ_14) (fun x => x = r) → Rn_X9_fillFrom G (fun v μ' => v = some (.int r.1) ∧ μ' = r.2) dd 14 [(3, .int l3_14), (4, .ref l4_14), (5, .int l5_14)] [] μ_14 := by
      intro l3_14 l4_14 l5_14 μ_14 h
      refine r_iload dX9_fillFrom_14 2 rfl ?_
      refine r_aload dX9_fillFrom_16 1 rfl ?_
      obtain ⟨x18, e18, h⟩ := Sat_bind h
      refine r_len e18 dX9_fillFrom_18 ?_
      refine r_icmp_ge 28 dX9_fillFrom_19 (by decide) (fun c19 => ?_) (fun c19 => ?_)
      · have h := Sat_pos c19 h
        refine r_iload dX9_fillFrom_28 2 rfl ?_
        refine r_iconst (v := 1) dX9_fillFrom_30 (by decide) ?_
        refine r_iadd dX9_fillFrom_31 ?_
        exact r_ireturn rfl (by rw [← Sat_eq h]; exact ⟨rfl, rfl⟩) dX9_fillFrom_32
      · have h := Sat_neg c19 h
        refine r_aload dX9_fillFrom_22 1 rfl ?_
        refine r_iload dX9_fillFrom_24 2 rfl ?_
        refine r_iload_n dX9_fillFrom_26 0 rfl ?_
        obtain ⟨μ27, e27, h⟩ := Sat_bind h
        refine r_iastore e27 dX9_fillFrom_27 ?_
        refine r_iload dX9_fillFrom_28 2 rfl ?_
        refine r_iconst (v := 1) dX9_fillFrom_30 (by decide) ?_
        refine r_iadd dX9_fillFrom_31 ?_
        exact r_ireturn rfl (by rw [← Sat_eq h]; exact ⟨rfl, rfl⟩) dX9_fillFrom_32
    refine r_iload_n dX9_fillFrom_0 1 rfl ?_
    refine r_aload_n dX9_fillFrom_1 0 rfl ?_
    obtain ⟨x2, e2, h⟩ := Sat_bind h
    refine r_getI fk_X9_21 rfl e2 dX9_fillFrom_2 ?_
    refine r_icmp_ge 14 dX9_fillFrom_5 (by decide) (fun c5 => ?_) (fun c5 => ?_)
    · have h := Sat_pos c5 h
      exact r_sub [3, 4, 5] rfl (J14 l3 l4 l5 μ h)
    · have h := Sat_neg c5 h
      refine r_iload_n dX9_fillFrom_8 1 rfl ?_
      refine r_bipush (v := 8) dX9_fillFrom_9 (by decide) ?_
      refine r_icmp_lt 33 dX9_fillFrom_11 (by decide) (fun c11 => ?_) (fun c11 => ?_)
      · have h := Sat_pos c11 h
        refine r_aload_n dX9_fillFrom_33 0 rfl ?_
        obtain ⟨x34, e34, h⟩ := Sat_bind h
        refine r_getP fk_X9_9 rfl e34 dX9_fillFrom_34 ?_
        refine r_iload_n dX9_fillFrom_37 1 rfl ?_
        obtain ⟨x38, e38, h⟩ := Sat_bind h
        refine r_iaload e38 dX9_fillFrom_38 ?_
        refine r_istore (lv' := [(6, .int x38), (0, .ref a0), (1, .int l1), (2, .int l2), (3, .int l3), (4, .ref l4), (5, .int l5)]) dX9_fillFrom_39 (by decide) rfl ?_
        refine r_aload_n dX9_fillFrom_41 1 rfl ?_
        obtain ⟨x42, e42, h⟩ := Sat_bind h
        refine r_getP fk_X9_15 rfl e42 dX9_fillFrom_42 ?_
        refine r_iload dX9_fillFrom_45 0 rfl ?_
        obtain ⟨x47, e47, h⟩ := Sat_bind h
        refine r_iaload e47 dX9_fillFrom_47 ?_
        refine r_iload_n dX9_fillFrom_48 3 rfl ?_
        refine r_iconst (v := -1) dX9_fillFrom_49 (by decide) ?_
        refine r_ixor dX9_fillFrom_50 ?_
        refine r_iand dX9_fillFrom_51 ?_
        obtain ⟨v52, e52, h⟩ := Sat_bind h
        refine r_topi (Option.some.inj e52) ?_
        refine r_istore (lv' := [(7, .int v52), (6, .int x38), (0, .ref a0), (1, .int l1), (2, .int l2), (3, .int l3), (4, .ref l4), (5, .int l5)]) dX9_fillFrom_52 (by decide) rfl ?_
        refine r_iload dX9_fillFrom_54 7 rfl ?_
        refine r_istore (lv' := [(8, .int l5), (7, .int v52), (6, .int x38), (0, .ref a0), (1, .int l1), (2, .int l2), (3, .int l3), (4, .ref l4), (5, .int l5)]) dX9_fillFrom_56 (by decide) rfl ?_
        refine r_iconst (v := 0) dX9_fillFrom_58 (by decide) ?_
        refine r_istore (lv' := [(9, .int (0 : Int32)), (8, .int l5), (7, .int v52), (6, .int x38), (0, .ref a0), (1, .int l1), (2, .int l2), (3, .int l3), (4, .ref l4), (5, .int l5)]) dX9_fillFrom_59 (by decide) rfl ?_
        refine r_sub (lv' := [(0, .ref a0), (1, .int l1), (2, .int l2), (3, .int l3), (4, .ref l4), (6, .int x38), (7, .int v52), (8, .int l5), (9, .int (0 : Int32))]) [4, 5, 6, 7, 8, 3, 2, 1, 0] rfl ?_
        refine whl_K (s0 := ((l5, (0 : Int32), μ) : Int32 × Int32 × Mm)) (RR := fun (s61 : Int32 × Int32 × Mm) => Rn_X9_fillFrom G (fun v μ' => v = some (.int r.1) ∧ μ' = r.2) dd 61 [(0, .ref a0), (1, .int l1), (2, .int l2), (3, .int l3), (4, .ref l4), (6, .int x38), (7, .int v52), (8, .int s61.1), (9, .int s61.2.1)] [] s61.2.2) ?_ (Sat_bindK h)
        intro s61 K61 hI61 hX61 h
        have J119 : ∀ (l8_119 : Int32) (l9_119 : Int32) (μ_119 : Mm), Sat (f_X9_fillFrom_J119 (f_X9_fillFrom nn) a0 l1 l2 l3 l4 x38 v52 l8_119 l9_119 μ_119) K61 → Rn_X9_fillFrom G (fun v μ' => v = some (.int r.1) ∧ μ' = r.2) dd 119 [(0, .ref a0), (1, .int l1), (2, .int l2), (3, .int l3), (4, .ref l4), (6, .int x38), (7, .int v52), (8, .int l8_119), (9, .int l9_119)] [] μ_119 := by
          intro l8_119 l9_119 μ_119 h
          obtain ⟨v119, e119, h⟩ := Sat_bind h
          refine r_iinc (j := 8) (v := v119) (lv' := [(9, .int v119), (0, .ref a0), (1, .int l1), (2, .int l2), (3, .int l3), (4, .ref l4), (6, .int x38), (7, .int v52), (8, .int l8_119)]) dX9_fillFrom_119 rfl (iinc_v e119 (by decide)) (by decide) rfl ?_
          refine r_goto 61 dX9_fillFrom_122 (by decide) ?_
          exact r_sub [1, 2, 3, 4, 5, 6, 7, 8, 0] rfl (hI61 _ (Sat_some h))
        refine r_iload dX9_fillFrom_61 8 rfl ?_
        refine r_bipush (v := 8) dX9_fillFrom_63 (by decide) ?_
        refine r_icmp_ge 125 dX9_fillFrom_65 (by decide) (fun c65 => ?_) (fun c65 => ?_)
        · have h := Sat_pos c65 h
          have h := hX61 _ (Sat_some h)
          refine r_iload dX9_fillFrom_125 7 rfl ?_
          exact r_ireturn rfl (by rw [← Sat_eq h]; exact ⟨rfl, rfl⟩) dX9_fillFrom_127
        · have h := Sat_neg c65 h
          refine r_iload_n dX9_fillFrom_68 2 rfl ?_
          refine r_iconst (v := 1) dX9_fillFrom_69 (by decide) ?_
          refine r_iload dX9_fillFrom_70 8 rfl ?_
          refine r_ishl dX9_fillFrom_72 ?_
          refine r_ior dX9_fillFrom_73 ?_
          obtain ⟨v74, e74, h⟩ := Sat_bind h
          refine r_topi (Option.some.inj e74) ?_
          refine r_istore (lv' := [(10, .int v74), (0, .ref a0), (1, .int l1), (2, .int l2), (3, .int l3), (4, .ref l4), (6, .int x38), (7, .int v52), (8, .int s61.1), (9, .int s61.2.1)]) dX9_fillFrom_74 (by decide) rfl ?_
          refine r_iload dX9_fillFrom_76 7 rfl ?_
          refine r_iload dX9_fillFrom_78 9 rfl ?_
          refine r_ishr dX9_fillFrom_80 ?_
          refine r_iconst (v := 1) dX9_fillFrom_81 (by decide) ?_
          refine r_iand dX9_fillFrom_82 ?_
          refine r_if_eq 119 dX9_fillFrom_83 (by decide) (fun c83 => ?_) (fun c83 => ?_)
          · have h := Sat_pos c83 h
            exact r_sub [1, 2, 3, 4, 5, 6, 7, 8, 9] rfl (J119 s61.1 s61.2.1 s61.2.2 h)
          · have h := Sat_neg c83 h
            refine r_aload_n dX9_fillFrom_86 1 rfl ?_
            obtain ⟨x87, e87, h⟩ := Sat_bind h
            refine r_getP fk_X9_18 rfl e87 dX9_fillFrom_87 ?_
            refine r_iload dX9_fillFrom_90 0 rfl ?_
            obtain ⟨x92, e92, h⟩ := Sat_bind h
            refine r_iaload e92 dX9_fillFrom_92 ?_
            refine r_if_le 119 dX9_fillFrom_93 (by decide) (fun c93 => ?_) (fun c93 => ?_)
            · have h := Sat_pos c93 h
              exact r_sub [1, 2, 3, 4, 5, 6, 7, 8, 9] rfl (J119 s61.1 s61.2.1 s61.2.2 h)
            · have h := Sat_neg c93 h
              refine r_aload_n dX9_fillFrom_96 1 rfl ?_
              refine r_iload_n dX9_fillFrom_97 2 rfl ?_
              refine r_iconst (v := 1) dX9_fillFrom_98 (by decide) ?_
              refine r_iadd dX9_fillFrom_99 ?_
              refine r_iload dX9_fillFrom_100 0 rfl ?_
              refine r_iload_n dX9_fillFrom_102 4 rfl ?_
              refine r_iload dX9_fillFrom_103 6 rfl ?_
              refine r_iload dX9_fillFrom_105 9 rfl ?_
              obtain ⟨x107, e107, h⟩ := Sat_bind h
              refine r_cS [.int l3, .int x38, .int s61.2.1] [.int v74, .int (l1 + (1 : Int32)), .ref a0] (m_X9_withDream l3 x38 s61.2.1 s61.2.2 e107) ck_X9_withDream lk_X9_52 st_X9_withDream rfl rfl (Nat.le_of_ble_eq_true rfl) ⟨rm_f (by omega), rm_l (by omega)⟩ ⟨Nat.zero_le _, Nat.zero_le _⟩ dX9_fillFrom_107 ?_
              refine r_aload dX9_fillFrom_110 5 rfl ?_
              refine r_iload dX9_fillFrom_112 8 rfl ?_
              obtain ⟨x114, e114, h⟩ := Sat_bind h
              refine r_cV (t := 10) [.int (l1 + (1 : Int32)), .int v74, .int x107, .ref l4, .int s61.1] [] (ih a0 (l1 + (1 : Int32)) v74 x107 l4 s61.1 s61.2.2 e114) ck_X9_fillFrom lk_X9_60 in_X9_fillFrom se_X9_fillFrom (kd_X9_fillFrom e114) ⟨rfl, by decide, by decide⟩ rfl rfl (Nat.le_of_ble_eq_true rfl) ⟨rm_f (by omega), rm_l (by omega)⟩ ⟨Nat.zero_le _, Nat.zero_le _⟩ dX9_fillFrom_114 ?_
              refine r_istore (lv' := [(8, .int x114.1), (10, .int v74), (0, .ref a0), (1, .int l1), (2, .int l2), (3, .int l3), (4, .ref l4), (6, .int x38), (7, .int v52), (9, .int s61.2.1)]) dX9_fillFrom_117 (by decide) rfl ?_
              exact r_sub [2, 3, 4, 5, 6, 7, 8, 0, 9] rfl (J119 x114.1 s61.2.1 x114.2 h)
      · have h := Sat_neg c11 h
        exact r_sub [3, 4, 5] rfl (J14 l3 l4 l5 μ h)
theorem dX9_fillRows_0 : decode cX9_fillRows 0 = .ok (.aload_n 0, 1) := by decide +kernel
theorem dX9_fillRows_1 : decode cX9_fillRows 1 = .ok (.iconst 0, 1) := by decide +kernel
theorem dX9_fillRows_2 : decode cX9_fillRows 2 = .ok (.iconst 0, 1) := by decide +kernel
theorem dX9_fillRows_3 : decode cX9_fillRows 3 = .ok (.iconst (-1), 1) := by decide +kernel
theorem dX9_fillRows_4 : decode cX9_fillRows 4 = .ok (.aload_n 1, 1) := by decide +kernel
theorem dX9_fillRows_5 : decode cX9_fillRows 5 = .ok (.iconst 0, 1) := by decide +kernel
theorem dX9_fillRows_6 : decode cX9_fillRows 6 = .ok (.invokevirtual 60, 3) := by decide +kernel
theorem dX9_fillRows_9 : decode cX9_fillRows 9 = .ok (.pop, 1) := by decide +kernel
theorem dX9_fillRows_10 : decode cX9_fillRows 10 = .ok (.return_, 1) := by decide +kernel
noncomputable def f_X9_fillRows (a0 : Nat) (l1 : Nat) (μ : Mm) : Option Mm :=
  if (mm_K μ a0).1 = 10 then (f_X9_fillFrom 10 a0 (0 : Int32) (0 : Int32) (-1 : Int32) l1 (0 : Int32) μ).bind fun x6 => some x6.2 else none
abbrev Rn_X9_fillRows (G : Gv) (Q : Option Value → Mm → Prop) (pc : Nat) (lv : List (Nat × Value)) (st : List Value) (μ : Mm) : Prop := Rn G RX9 cX9_fillRows 2 none "fillRows" (rmd 12 0 0) (Zm G 0 0 Q) 0 0 pc lv st μ
set_option maxRecDepth 100000 in
set_option maxHeartbeats 4000000 in
theorem m_X9_fillRows {G : Gv} (a0 : Nat) (l1 : Nat) (μ : Mm) {r : Mm} (hx : f_X9_fillRows a0 l1 μ = some r) : Mt G yX9_fillRows cX9_fillRows 2 none 12 0 0 [.ref a0, .ref l1] μ (fun v μ' => v = none ∧ μ' = r) := by
  refine Mt.of (by decide) (Nat.le_of_ble_eq_true rfl) ?_
  show Rn_X9_fillRows G (fun v μ' => v = none ∧ μ' = r) 0 [(0, .ref a0), (1, .ref l1)] [] μ
  obtain ⟨_, h⟩ := Sat_ifp (show Sat (f_X9_fillRows a0 l1 μ) (fun x => x = r) from ⟨_, hx, rfl⟩)
  refine r_aload_n dX9_fillRows_0 0 rfl ?_
  refine r_iconst (v := 0) dX9_fillRows_1 (by decide) ?_
  refine r_iconst (v := 0) dX9_fillRows_2 (by decide) ?_
  refine r_iconst (v := -1) dX9_fillRows_3 (by decide) ?_
  refine r_aload_n dX9_fillRows_4 1 rfl ?_
  refine r_iconst (v := 0) dX9_fillRows_5 (by decide) ?_
  obtain ⟨x6, e6, h⟩ := Sat_bind h
  refine r_cV (t := 10) [.int (0 : Int32), .int (0 : Int32), .int (-1 : Int32), .ref l1, .int (0 : Int32)] [] (m_X9_fillFrom 10 a0 (0 : Int32) (0 : Int32) (-1 : Int32) l1 (0 : Int32) μ e6) ck_X9_fillFrom lk_X9_60 in_X9_fillFrom se_X9_fillFrom (kd_X9_fillFrom e6) ⟨rfl, by decide, by decide⟩ rfl rfl (Nat.le_of_ble_eq_true rfl) ⟨by decide, by decide⟩ ⟨Nat.zero_le _, Nat.zero_le _⟩ dX9_fillRows_6 ?_
  refine r_pop dX9_fillRows_9 rfl ?_
  exact r_vreturn rfl (by rw [← Sat_eq h]; exact ⟨rfl, rfl⟩) dX9_fillRows_10
theorem dX9_howMany_0 : decode cX9_howMany 0 = .ok (.aload_n 0, 1) := by decide +kernel
theorem dX9_howMany_1 : decode cX9_howMany 1 = .ok (.getfield 18, 3) := by decide +kernel
theorem dX9_howMany_4 : decode cX9_howMany 4 = .ok (.iconst 0, 1) := by decide +kernel
theorem dX9_howMany_5 : decode cX9_howMany 5 = .ok (.iaload, 1) := by decide +kernel
theorem dX9_howMany_6 : decode cX9_howMany 6 = .ok (.ireturn, 1) := by decide +kernel
noncomputable def f_X9_howMany (a0 : Nat) (μ : Mm) : Option Int32 :=
  if (mm_K μ a0).1 = 10 then (gf_P 10 2 a0 μ).bind fun x1 => (ga_I x1 (0 : Int32) μ).bind fun x5 => some x5 else none
abbrev Rn_X9_howMany (G : Gv) (Q : Option Value → Mm → Prop) (pc : Nat) (lv : List (Nat × Value)) (st : List Value) (μ : Mm) : Prop := Rn G RX9 cX9_howMany 1 (some .int) "howMany" (rmd 0 0 0) (Zm G 0 0 Q) 0 0 pc lv st μ
set_option maxRecDepth 100000 in
set_option maxHeartbeats 4000000 in
theorem m_X9_howMany {G : Gv} (a0 : Nat) (μ : Mm) {r : Int32} (hx : f_X9_howMany a0 μ = some r) : Mt G yX9_howMany cX9_howMany 1 (some .int) 0 0 0 [.ref a0] μ (fun v μ' => v = some (.int r) ∧ μ' = μ) := by
  refine Mt.of (by decide) (Nat.le_of_ble_eq_true rfl) ?_
  show Rn_X9_howMany G (fun v μ' => v = some (.int r) ∧ μ' = μ) 0 [(0, .ref a0)] [] μ
  obtain ⟨_, h⟩ := Sat_ifp (show Sat (f_X9_howMany a0 μ) (fun x => x = r) from ⟨_, hx, rfl⟩)
  refine r_aload_n dX9_howMany_0 0 rfl ?_
  obtain ⟨x1, e1, h⟩ := Sat_bind h
  refine r_getP fk_X9_18 rfl e1 dX9_howMany_1 ?_
  refine r_iconst (v := 0) dX9_howMany_4 (by decide) ?_
  obtain ⟨x5, e5, h⟩ := Sat_bind h
  refine r_iaload e5 dX9_howMany_5 ?_
  exact r_ireturn rfl (by rw [← Sat_eq h]; exact ⟨rfl, rfl⟩) dX9_howMany_6
theorem dX1_isFitting_0 : decode cX1_isFitting 0 = .ok (.iconst 0, 1) := by decide +kernel
theorem dX1_isFitting_1 : decode cX1_isFitting 1 = .ok (.istore_n 3, 1) := by decide +kernel
theorem dX1_isFitting_2 : decode cX1_isFitting 2 = .ok (.iload_n 3, 1) := by decide +kernel
theorem dX1_isFitting_3 : decode cX1_isFitting 3 = .ok (.iload_n 2, 1) := by decide +kernel
theorem dX1_isFitting_4 : decode cX1_isFitting 4 = .ok (.if_icmp .ge 82, 3) := by decide +kernel
theorem dX1_isFitting_7 : decode cX1_isFitting 7 = .ok (.iload_n 3, 1) := by decide +kernel
theorem dX1_isFitting_8 : decode cX1_isFitting 8 = .ok (.aload_n 0, 1) := by decide +kernel
theorem dX1_isFitting_9 : decode cX1_isFitting 9 = .ok (.getfield 22, 3) := by decide +kernel
theorem dX1_isFitting_12 : decode cX1_isFitting 12 = .ok (.arraylength, 1) := by decide +kernel
theorem dX1_isFitting_13 : decode cX1_isFitting 13 = .ok (.if_icmp .ge 73, 3) := by decide +kernel
theorem dX1_isFitting_16 : decode cX1_isFitting 16 = .ok (.aload_n 0, 1) := by decide +kernel
theorem dX1_isFitting_17 : decode cX1_isFitting 17 = .ok (.aload_n 0, 1) := by decide +kernel
theorem dX1_isFitting_18 : decode cX1_isFitting 18 = .ok (.getfield 39, 3) := by decide +kernel
theorem dX1_isFitting_21 : decode cX1_isFitting 21 = .ok (.getfield 117, 3) := by decide +kernel
theorem dX1_isFitting_24 : decode cX1_isFitting 24 = .ok (.iload_n 3, 1) := by decide +kernel
theorem dX1_isFitting_25 : decode cX1_isFitting 25 = .ok (.iaload, 1) := by decide +kernel
theorem dX1_isFitting_26 : decode cX1_isFitting 26 = .ok (.invokevirtual 129, 3) := by decide +kernel
theorem dX1_isFitting_29 : decode cX1_isFitting 29 = .ok (.iload_n 1, 1) := by decide +kernel
theorem dX1_isFitting_30 : decode cX1_isFitting 30 = .ok (.aload_n 0, 1) := by decide +kernel
theorem dX1_isFitting_31 : decode cX1_isFitting 31 = .ok (.getfield 39, 3) := by decide +kernel
theorem dX1_isFitting_34 : decode cX1_isFitting 34 = .ok (.getfield 133, 3) := by decide +kernel
theorem dX1_isFitting_37 : decode cX1_isFitting 37 = .ok (.iload_n 3, 1) := by decide +kernel
theorem dX1_isFitting_38 : decode cX1_isFitting 38 = .ok (.iaload, 1) := by decide +kernel
theorem dX1_isFitting_39 : decode cX1_isFitting 39 = .ok (.invokestatic 136, 3) := by decide +kernel
theorem dX1_isFitting_42 : decode cX1_isFitting 42 = .ok (.istore 4, 2) := by decide +kernel
theorem dX1_isFitting_44 : decode cX1_isFitting 44 = .ok (.iload 4, 2) := by decide +kernel
theorem dX1_isFitting_46 : decode cX1_isFitting 46 = .ok (.iconst 2, 1) := by decide +kernel
theorem dX1_isFitting_47 : decode cX1_isFitting 47 = .ok (.aload_n 0, 1) := by decide +kernel
theorem dX1_isFitting_48 : decode cX1_isFitting 48 = .ok (.getfield 39, 3) := by decide +kernel
theorem dX1_isFitting_51 : decode cX1_isFitting 51 = .ok (.getfield 140, 3) := by decide +kernel
theorem dX1_isFitting_54 : decode cX1_isFitting 54 = .ok (.iload_n 3, 1) := by decide +kernel
theorem dX1_isFitting_55 : decode cX1_isFitting 55 = .ok (.iaload, 1) := by decide +kernel
theorem dX1_isFitting_56 : decode cX1_isFitting 56 = .ok (.imul, 1) := by decide +kernel
theorem dX1_isFitting_57 : decode cX1_isFitting 57 = .ok (.if_icmp .gt 7, 3) := by decide +kernel
theorem dX1_isFitting_60 : decode cX1_isFitting 60 = .ok (.iconst 1, 1) := by decide +kernel
theorem dX1_isFitting_61 : decode cX1_isFitting 61 = .ok (.goto 4, 3) := by decide +kernel
theorem dX1_isFitting_64 : decode cX1_isFitting 64 = .ok (.iconst 0, 1) := by decide +kernel
theorem dX1_isFitting_65 : decode cX1_isFitting 65 = .ok (.istore 5, 2) := by decide +kernel
theorem dX1_isFitting_67 : decode cX1_isFitting 67 = .ok (.iload 5, 2) := by decide +kernel
theorem dX1_isFitting_69 : decode cX1_isFitting 69 = .ok (.aload_n 0, 1) := by decide +kernel
theorem dX1_isFitting_70 : decode cX1_isFitting 70 = .ok (.getfield 22, 3) := by decide +kernel
theorem dX1_isFitting_73 : decode cX1_isFitting 73 = .ok (.iload_n 3, 1) := by decide +kernel
theorem dX1_isFitting_74 : decode cX1_isFitting 74 = .ok (.iaload, 1) := by decide +kernel
theorem dX1_isFitting_75 : decode cX1_isFitting 75 = .ok (.if_icmp .eq 5, 3) := by decide +kernel
theorem dX1_isFitting_78 : decode cX1_isFitting 78 = .ok (.iconst 0, 1) := by decide +kernel
theorem dX1_isFitting_79 : decode cX1_isFitting 79 = .ok (.ireturn, 1) := by decide +kernel
theorem dX1_isFitting_80 : decode cX1_isFitting 80 = .ok (.iinc 3 1, 3) := by decide +kernel
theorem dX1_isFitting_83 : decode cX1_isFitting 83 = .ok (.goto (-81), 3) := by decide +kernel
theorem dX1_isFitting_86 : decode cX1_isFitting 86 = .ok (.iconst 1, 1) := by decide +kernel
theorem dX1_isFitting_87 : decode cX1_isFitting 87 = .ok (.ireturn, 1) := by decide +kernel
noncomputable def f_X1_isFitting_J65 (a0 : Nat) (l1 : Int32) (l2 : Int32) (l3 : Int32) (k0 : Int32) (μ : Mm) : Option ((Int32) ⊕ ((Unit) ⊕ (Unit))) :=
  (gf_P 2 4 a0 μ).bind fun x70 => (ga_I x70 l3 μ).bind fun x74 => if k0 = x74 then (some (l3 + (1 : Int32))).bind fun v80 => some (.inl v80) else some (.inr (.inl ()))
noncomputable def f_X1_isFitting_L2 (a0 : Nat) (l1 : Int32) (l2 : Int32) (μ : Mm) (s2 : Int32) : Option ((Int32) ⊕ ((Unit) ⊕ (Unit))) :=
  if l2 ≤ s2 then some (.inr (.inr ())) else (gf_P 2 4 a0 μ).bind fun x9 => (ga_len x9 μ).bind fun x12 => if x12 ≤ s2 then some (.inr (.inr ())) else (gf_P 2 1 a0 μ).bind fun x18 => (gf_P 1 3 x18 μ).bind fun x21 => (ga_I x21 s2 μ).bind fun x25 => (f_X1_lineOf a0 x25 μ).bind fun x26 => (gf_P 2 1 a0 μ).bind fun x31 => (gf_P 1 2 x31 μ).bind fun x34 => (ga_I x34 s2 μ).bind fun x38 => (f_X1_momentIn x26 l1 x38 μ).bind fun x39 => (gf_P 2 1 a0 μ).bind fun x48 => (gf_P 1 1 x48 μ).bind fun x51 => (ga_I x51 s2 μ).bind fun x55 => if ((2 : Int32) * x55) < x39 then f_X1_isFitting_J65 a0 l1 l2 s2 (0 : Int32) μ else f_X1_isFitting_J65 a0 l1 l2 s2 (1 : Int32) μ
noncomputable def f_X1_isFitting (a0 : Nat) (l1 : Int32) (l2 : Int32) (μ : Mm) : Option Int32 :=
  if (mm_K μ a0).1 = 2 then (whl (f_X1_isFitting_L2 a0 l1 l2 μ) (0 : Int32)).bind (sm (fun b2 => some (0 : Int32)) (fun b2 => some (1 : Int32))) else none
abbrev Rn_X1_isFitting (G : Gv) (Q : Option Value → Mm → Prop) (pc : Nat) (lv : List (Nat × Value)) (st : List Value) (μ : Mm) : Prop := Rn G RX1 cX1_isFitting 6 (some .boolean) "isFitting" (rmd 1 0 0) (Zm G 0 0 Q) 0 0 pc lv st μ
set_option maxRecDepth 100000 in
set_option maxHeartbeats 4000000 in
theorem m_X1_isFitting {G : Gv} (a0 : Nat) (l1 : Int32) (l2 : Int32) (μ : Mm) {r : Int32} (hx : f_X1_isFitting a0 l1 l2 μ = some r) : Mt G yX1_isFitting cX1_isFitting 6 (some .boolean) 1 0 0 [.ref a0, .int l1, .int l2] μ (fun v μ' => v = some (.int r) ∧ μ' = μ) := by
  refine Mt.of (by decide) (Nat.le_of_ble_eq_true rfl) ?_
  show Rn_X1_isFitting G (fun v μ' => v = some (.int r) ∧ μ' = μ) 0 [(0, .ref a0), (1, .int l1), (2, .int l2)] [] μ
  obtain ⟨_, h⟩ := Sat_ifp (show Sat (f_X1_isFitting a0 l1 l2 μ) (fun x => x = r) from ⟨_, hx, rfl⟩)
  refine r_iconst (v := 0) dX1_isFitting_0 (by decide) ?_
  refine r_istore_n (lv' := [(3, .int (0 : Int32)), (0, .ref a0), (1, .int l1), (2, .int l2)]) dX1_isFitting_1 rfl (by decide) rfl ?_
  refine r_sub (lv' := [(0, .ref a0), (1, .int l1), (2, .int l2), (3, .int (0 : Int32))]) [1, 2, 3, 0] rfl ?_
  refine whl_K (s0 := ((0 : Int32) : Int32)) (RR := fun (s2 : Int32) => Rn_X1_isFitting G (fun v μ' => v = some (.int r) ∧ μ' = μ) 2 [(0, .ref a0), (1, .int l1), (2, .int l2), (3, .int s2)] [] μ) ?_ (Sat_bindK h)
  intro s2 K2 hI2 hX2 h
  have J65 : ∀ (l3_65 : Int32) (k0_65 : Int32), Sat (f_X1_isFitting_J65 a0 l1 l2 l3_65 k0_65 μ) K2 → Rn_X1_isFitting G (fun v μ' => v = some (.int r) ∧ μ' = μ) 65 [(0, .ref a0), (1, .int l1), (2, .int l2), (3, .int l3_65)] [.int k0_65] μ := by
    intro l3_65 k0_65 h
    refine r_istore (lv' := [(5, .int k0_65), (0, .ref a0), (1, .int l1), (2, .int l2), (3, .int l3_65)]) dX1_isFitting_65 (by decide) rfl ?_
    refine r_iload dX1_isFitting_67 0 rfl ?_
    refine r_aload_n dX1_isFitting_69 1 rfl ?_
    obtain ⟨x70, e70, h⟩ := Sat_bind h
    refine r_getP fk_X1_22 rfl e70 dX1_isFitting_70 ?_
    refine r_iload_n dX1_isFitting_73 4 rfl ?_
    obtain ⟨x74, e74, h⟩ := Sat_bind h
    refine r_iaload e74 dX1_isFitting_74 ?_
    refine r_icmp_eq 80 dX1_isFitting_75 (by decide) (fun c75 => ?_) (fun c75 => ?_)
    · have h := Sat_pos c75 h
      obtain ⟨v80, e80, h⟩ := Sat_bind h
      refine r_iinc (j := 4) (v := v80) (lv' := [(3, .int v80), (5, .int k0_65), (0, .ref a0), (1, .int l1), (2, .int l2)]) dX1_isFitting_80 rfl (iinc_v e80 (by decide)) (by decide) rfl ?_
      refine r_goto 2 dX1_isFitting_83 (by decide) ?_
      exact r_sub [2, 3, 4, 0] rfl (hI2 _ (Sat_some h))
    · have h := Sat_neg c75 h
      have h := hX2 _ (Sat_some h)
      refine r_iconst (v := 0) dX1_isFitting_78 (by decide) ?_
      exact r_zreturn rfl (by decide) (by rw [← Sat_eq h]; exact ⟨rfl, rfl⟩) dX1_isFitting_79
  refine r_iload_n dX1_isFitting_2 3 rfl ?_
  refine r_iload_n dX1_isFitting_3 2 rfl ?_
  refine r_icmp_ge 86 dX1_isFitting_4 (by decide) (fun c4 => ?_) (fun c4 => ?_)
  · have h := Sat_pos c4 h
    have h := hX2 _ (Sat_some h)
    refine r_iconst (v := 1) dX1_isFitting_86 (by decide) ?_
    exact r_zreturn rfl (by decide) (by rw [← Sat_eq h]; exact ⟨rfl, rfl⟩) dX1_isFitting_87
  · have h := Sat_neg c4 h
    refine r_iload_n dX1_isFitting_7 3 rfl ?_
    refine r_aload_n dX1_isFitting_8 0 rfl ?_
    obtain ⟨x9, e9, h⟩ := Sat_bind h
    refine r_getP fk_X1_22 rfl e9 dX1_isFitting_9 ?_
    obtain ⟨x12, e12, h⟩ := Sat_bind h
    refine r_len e12 dX1_isFitting_12 ?_
    refine r_icmp_ge 86 dX1_isFitting_13 (by decide) (fun c13 => ?_) (fun c13 => ?_)
    · have h := Sat_pos c13 h
      have h := hX2 _ (Sat_some h)
      refine r_iconst (v := 1) dX1_isFitting_86 (by decide) ?_
      exact r_zreturn rfl (by decide) (by rw [← Sat_eq h]; exact ⟨rfl, rfl⟩) dX1_isFitting_87
    · have h := Sat_neg c13 h
      refine r_aload_n dX1_isFitting_16 0 rfl ?_
      refine r_aload_n dX1_isFitting_17 0 rfl ?_
      obtain ⟨x18, e18, h⟩ := Sat_bind h
      refine r_getP fk_X1_39 rfl e18 dX1_isFitting_18 ?_
      obtain ⟨x21, e21, h⟩ := Sat_bind h
      refine r_getP fk_X1_117 rfl e21 dX1_isFitting_21 ?_
      refine r_iload_n dX1_isFitting_24 3 rfl ?_
      obtain ⟨x25, e25, h⟩ := Sat_bind h
      refine r_iaload e25 dX1_isFitting_25 ?_
      obtain ⟨x26, e26, h⟩ := Sat_bind h
      refine r_cV (t := 2) [.int x25] [] (m_X1_lineOf a0 x25 μ e26) ck_X1_lineOf lk_X1_129 in_X1_lineOf se_X1_lineOf (kd_of e26) ⟨rfl, by decide, by decide⟩ rfl rfl (Nat.le_of_ble_eq_true rfl) ⟨by decide, by decide⟩ ⟨Nat.zero_le _, Nat.zero_le _⟩ dX1_isFitting_26 ?_
      refine r_iload_n dX1_isFitting_29 1 rfl ?_
      refine r_aload_n dX1_isFitting_30 0 rfl ?_
      obtain ⟨x31, e31, h⟩ := Sat_bind h
      refine r_getP fk_X1_39 rfl e31 dX1_isFitting_31 ?_
      obtain ⟨x34, e34, h⟩ := Sat_bind h
      refine r_getP fk_X1_133 rfl e34 dX1_isFitting_34 ?_
      refine r_iload_n dX1_isFitting_37 3 rfl ?_
      obtain ⟨x38, e38, h⟩ := Sat_bind h
      refine r_iaload e38 dX1_isFitting_38 ?_
      obtain ⟨x39, e39, h⟩ := Sat_bind h
      refine r_cS [.ref x26, .int l1, .int x38] [] (m_X1_momentIn x26 l1 x38 μ e39) ck_X1_momentIn lk_X1_136 st_X1_momentIn rfl rfl (Nat.le_of_ble_eq_true rfl) ⟨by decide, by decide⟩ ⟨Nat.zero_le _, Nat.zero_le _⟩ dX1_isFitting_39 ?_
      refine r_istore (lv' := [(4, .int x39), (0, .ref a0), (1, .int l1), (2, .int l2), (3, .int s2)]) dX1_isFitting_42 (by decide) rfl ?_
      refine r_iload dX1_isFitting_44 0 rfl ?_
      refine r_iconst (v := 2) dX1_isFitting_46 (by decide) ?_
      refine r_aload_n dX1_isFitting_47 1 rfl ?_
      obtain ⟨x48, e48, h⟩ := Sat_bind h
      refine r_getP fk_X1_39 rfl e48 dX1_isFitting_48 ?_
      obtain ⟨x51, e51, h⟩ := Sat_bind h
      refine r_getP fk_X1_140 rfl e51 dX1_isFitting_51 ?_
      refine r_iload_n dX1_isFitting_54 4 rfl ?_
      obtain ⟨x55, e55, h⟩ := Sat_bind h
      refine r_iaload e55 dX1_isFitting_55 ?_
      refine r_imul dX1_isFitting_56 ?_
      refine r_icmp_gt 64 dX1_isFitting_57 (by decide) (fun c57 => ?_) (fun c57 => ?_)
      · have h := Sat_pos c57 h
        refine r_iconst (v := 0) dX1_isFitting_64 (by decide) ?_
        exact r_sub [1, 2, 3, 4] rfl (J65 s2 (0 : Int32) h)
      · have h := Sat_neg c57 h
        refine r_iconst (v := 1) dX1_isFitting_60 (by decide) ?_
        refine r_goto 65 dX1_isFitting_61 (by decide) ?_
        exact r_sub [1, 2, 3, 4] rfl (J65 s2 (1 : Int32) h)
theorem dX3_start_0 : decode cX3_start 0 = .ok (.aload_n 0, 1) := by decide +kernel
theorem dX3_start_1 : decode cX3_start 1 = .ok (.iconst 1, 1) := by decide +kernel
theorem dX3_start_2 : decode cX3_start 2 = .ok (.putfield 15, 3) := by decide +kernel
theorem dX3_start_5 : decode cX3_start 5 = .ok (.aload_n 0, 1) := by decide +kernel
theorem dX3_start_6 : decode cX3_start 6 = .ok (.iload_n 1, 1) := by decide +kernel
theorem dX3_start_7 : decode cX3_start 7 = .ok (.putfield 19, 3) := by decide +kernel
theorem dX3_start_10 : decode cX3_start 10 = .ok (.aload_n 0, 1) := by decide +kernel
theorem dX3_start_11 : decode cX3_start 11 = .ok (.iload_n 2, 1) := by decide +kernel
theorem dX3_start_12 : decode cX3_start 12 = .ok (.putfield 23, 3) := by decide +kernel
theorem dX3_start_15 : decode cX3_start 15 = .ok (.aload_n 0, 1) := by decide +kernel
theorem dX3_start_16 : decode cX3_start 16 = .ok (.iconst 0, 1) := by decide +kernel
theorem dX3_start_17 : decode cX3_start 17 = .ok (.putfield 26, 3) := by decide +kernel
theorem dX3_start_20 : decode cX3_start 20 = .ok (.aload_n 0, 1) := by decide +kernel
theorem dX3_start_21 : decode cX3_start 21 = .ok (.getfield 9, 3) := by decide +kernel
theorem dX3_start_24 : decode cX3_start 24 = .ok (.iconst 0, 1) := by decide +kernel
theorem dX3_start_25 : decode cX3_start 25 = .ok (.invokestatic 29, 3) := by decide +kernel
theorem dX3_start_28 : decode cX3_start 28 = .ok (.return_, 1) := by decide +kernel
noncomputable def f_X3_start (a0 : Nat) (l1 : Int32) (l2 : Int32) (μ : Mm) : Option Mm :=
  if (mm_K μ a0).1 = 4 then (pf_Z 4 1 a0 (1 : Int32) μ).bind fun μ2 => (pf_I 4 2 a0 l1 μ2).bind fun μ7 => (pf_I 4 3 a0 l2 μ7).bind fun μ12 => (pf_I 4 4 a0 (0 : Int32) μ12).bind fun μ17 => (gf_P 4 0 a0 μ17).bind fun x21 => (f_J7_fill_53178 x21 (0 : Int32) μ17).bind fun x25 => some x25 else none
abbrev Rn_X3_start (G : Gv) (Q : Option Value → Mm → Prop) (pc : Nat) (lv : List (Nat × Value)) (st : List Value) (μ : Mm) : Prop := Rn G RX3 cX3_start 3 none "start" (rmd 1 0 0) (Zm G 0 0 Q) 0 0 pc lv st μ
set_option maxRecDepth 100000 in
set_option maxHeartbeats 4000000 in
theorem m_X3_start {G : Gv} (a0 : Nat) (l1 : Int32) (l2 : Int32) (μ : Mm) {r : Mm} (hx : f_X3_start a0 l1 l2 μ = some r) : Mt G yX3_start cX3_start 3 none 1 0 0 [.ref a0, .int l1, .int l2] μ (fun v μ' => v = none ∧ μ' = r) := by
  refine Mt.of (by decide) (Nat.le_of_ble_eq_true rfl) ?_
  show Rn_X3_start G (fun v μ' => v = none ∧ μ' = r) 0 [(0, .ref a0), (1, .int l1), (2, .int l2)] [] μ
  obtain ⟨_, h⟩ := Sat_ifp (show Sat (f_X3_start a0 l1 l2 μ) (fun x => x = r) from ⟨_, hx, rfl⟩)
  refine r_aload_n dX3_start_0 0 rfl ?_
  refine r_iconst (v := 1) dX3_start_1 (by decide) ?_
  obtain ⟨μ2, e2, h⟩ := Sat_bind h
  refine r_putZ fk_X3_15 rfl rfl e2 dX3_start_2 ?_
  refine r_aload_n dX3_start_5 0 rfl ?_
  refine r_iload_n dX3_start_6 1 rfl ?_
  obtain ⟨μ7, e7, h⟩ := Sat_bind h
  refine r_putI fk_X3_19 rfl rfl e7 dX3_start_7 ?_
  refine r_aload_n dX3_start_10 0 rfl ?_
  refine r_iload_n dX3_start_11 2 rfl ?_
  obtain ⟨μ12, e12, h⟩ := Sat_bind h
  refine r_putI fk_X3_23 rfl rfl e12 dX3_start_12 ?_
  refine r_aload_n dX3_start_15 0 rfl ?_
  refine r_iconst (v := 0) dX3_start_16 (by decide) ?_
  obtain ⟨μ17, e17, h⟩ := Sat_bind h
  refine r_putI fk_X3_26 rfl rfl e17 dX3_start_17 ?_
  refine r_aload_n dX3_start_20 0 rfl ?_
  obtain ⟨x21, e21, h⟩ := Sat_bind h
  refine r_getP fk_X3_9 rfl e21 dX3_start_21 ?_
  refine r_iconst (v := 0) dX3_start_24 (by decide) ?_
  obtain ⟨x25, e25, h⟩ := Sat_bind h
  refine r_cS [.ref x21, .int (0 : Int32)] [] (m_J7_fill_53178 x21 (0 : Int32) μ17 e25) ck_J7_fill_53178 lk_X3_29 st_J7_fill_53178 rfl rfl (Nat.le_of_ble_eq_true rfl) ⟨by decide, by decide⟩ ⟨Nat.zero_le _, Nat.zero_le _⟩ dX3_start_25 ?_
  exact r_vreturn rfl (by rw [← Sat_eq h]; exact ⟨rfl, rfl⟩) dX3_start_28
theorem dX10_begin_0 : decode cX10_begin 0 = .ok (.iload_n 1, 1) := by decide +kernel
theorem dX10_begin_1 : decode cX10_begin 1 = .ok (.ifCond .ge 6, 3) := by decide +kernel
theorem dX10_begin_4 : decode cX10_begin 4 = .ok (.bipush (-2), 2) := by decide +kernel
theorem dX10_begin_6 : decode cX10_begin 6 = .ok (.ireturn, 1) := by decide +kernel
theorem dX10_begin_7 : decode cX10_begin 7 = .ok (.aload_n 0, 1) := by decide +kernel
theorem dX10_begin_8 : decode cX10_begin 8 = .ok (.getfield 35, 3) := by decide +kernel
theorem dX10_begin_11 : decode cX10_begin 11 = .ok (.iload_n 1, 1) := by decide +kernel
theorem dX10_begin_12 : decode cX10_begin 12 = .ok (.aload_n 0, 1) := by decide +kernel
theorem dX10_begin_13 : decode cX10_begin 13 = .ok (.getfield 116, 3) := by decide +kernel
theorem dX10_begin_16 : decode cX10_begin 16 = .ok (.invokevirtual 414, 3) := by decide +kernel
theorem dX10_begin_19 : decode cX10_begin 19 = .ok (.iconst 1, 1) := by decide +kernel
theorem dX10_begin_20 : decode cX10_begin 20 = .ok (.ireturn, 1) := by decide +kernel
noncomputable def f_X10_begin (a0 : Nat) (l1 : Int32) (μ : Mm) : Option (Int32 × Mm) :=
  if (mm_K μ a0).1 = 11 then if 0 ≤ l1 then (gf_P 11 6 a0 μ).bind fun x8 => (gf_I 11 15 a0 μ).bind fun x13 => (f_X3_start x8 l1 x13 μ).bind fun x16 => some ((1 : Int32), x16) else some ((-2 : Int32), μ) else none
abbrev Rn_X10_begin (G : Gv) (Q : Option Value → Mm → Prop) (pc : Nat) (lv : List (Nat × Value)) (st : List Value) (μ : Mm) : Prop := Rn G RX10 cX10_begin 2 (some .int) "begin" (rmd 2 0 0) (Zm G 0 0 Q) 0 0 pc lv st μ
set_option maxRecDepth 100000 in
set_option maxHeartbeats 4000000 in
theorem m_X10_begin {G : Gv} (a0 : Nat) (l1 : Int32) (μ : Mm) {r : (Int32 × Mm)} (hx : f_X10_begin a0 l1 μ = some r) : Mt G yX10_begin cX10_begin 2 (some .int) 2 0 0 [.ref a0, .int l1] μ (fun v μ' => v = some (.int r.1) ∧ μ' = r.2) := by
  refine Mt.of (by decide) (Nat.le_of_ble_eq_true rfl) ?_
  show Rn_X10_begin G (fun v μ' => v = some (.int r.1) ∧ μ' = r.2) 0 [(0, .ref a0), (1, .int l1)] [] μ
  obtain ⟨_, h⟩ := Sat_ifp (show Sat (f_X10_begin a0 l1 μ) (fun x => x = r) from ⟨_, hx, rfl⟩)
  refine r_iload_n dX10_begin_0 1 rfl ?_
  refine r_if_ge 7 dX10_begin_1 (by decide) (fun c1 => ?_) (fun c1 => ?_)
  · have h := Sat_pos c1 h
    refine r_aload_n dX10_begin_7 0 rfl ?_
    obtain ⟨x8, e8, h⟩ := Sat_bind h
    refine r_getP fk_X10_35 rfl e8 dX10_begin_8 ?_
    refine r_iload_n dX10_begin_11 1 rfl ?_
    refine r_aload_n dX10_begin_12 0 rfl ?_
    obtain ⟨x13, e13, h⟩ := Sat_bind h
    refine r_getI fk_X10_116 rfl e13 dX10_begin_13 ?_
    obtain ⟨x16, e16, h⟩ := Sat_bind h
    refine r_cV (t := 4) [.int l1, .int x13] [] (m_X3_start x8 l1 x13 μ e16) ck_X3_start lk_X10_414 in_X3_start se_X3_start (kd_of e16) ⟨rfl, by decide, by decide⟩ rfl rfl (Nat.le_of_ble_eq_true rfl) ⟨by decide, by decide⟩ ⟨Nat.zero_le _, Nat.zero_le _⟩ dX10_begin_16 ?_
    refine r_iconst (v := 1) dX10_begin_19 (by decide) ?_
    exact r_ireturn rfl (by rw [← Sat_eq h]; exact ⟨rfl, rfl⟩) dX10_begin_20
  · have h := Sat_neg c1 h
    refine r_bipush (v := -2) dX10_begin_4 (by decide) ?_
    exact r_ireturn rfl (by rw [← Sat_eq h]; exact ⟨rfl, rfl⟩) dX10_begin_6
theorem dX10_bookNumber_0 : decode cX10_bookNumber 0 = .ok (.aload_n 0, 1) := by decide +kernel
theorem dX10_bookNumber_1 : decode cX10_bookNumber 1 = .ok (.getfield 21, 3) := by decide +kernel
theorem dX10_bookNumber_4 : decode cX10_bookNumber 4 = .ok (.getfield 254, 3) := by decide +kernel
theorem dX10_bookNumber_7 : decode cX10_bookNumber 7 = .ok (.iconst 2, 1) := by decide +kernel
theorem dX10_bookNumber_8 : decode cX10_bookNumber 8 = .ok (.if_icmp .ne 24, 3) := by decide +kernel
theorem dX10_bookNumber_11 : decode cX10_bookNumber 11 = .ok (.aload_n 0, 1) := by decide +kernel
theorem dX10_bookNumber_12 : decode cX10_bookNumber 12 = .ok (.getfield 21, 3) := by decide +kernel
theorem dX10_bookNumber_15 : decode cX10_bookNumber 15 = .ok (.getfield 264, 3) := by decide +kernel
theorem dX10_bookNumber_18 : decode cX10_bookNumber 18 = .ok (.iload_n 1, 1) := by decide +kernel
theorem dX10_bookNumber_19 : decode cX10_bookNumber 19 = .ok (.if_icmp .gt 13, 3) := by decide +kernel
theorem dX10_bookNumber_22 : decode cX10_bookNumber 22 = .ok (.aload_n 0, 1) := by decide +kernel
theorem dX10_bookNumber_23 : decode cX10_bookNumber 23 = .ok (.getfield 21, 3) := by decide +kernel
theorem dX10_bookNumber_26 : decode cX10_bookNumber 26 = .ok (.getfield 264, 3) := by decide +kernel
theorem dX10_bookNumber_29 : decode cX10_bookNumber 29 = .ok (.goto 4, 3) := by decide +kernel
theorem dX10_bookNumber_32 : decode cX10_bookNumber 32 = .ok (.iconst (-1), 1) := by decide +kernel
theorem dX10_bookNumber_33 : decode cX10_bookNumber 33 = .ok (.ireturn, 1) := by decide +kernel
noncomputable def f_X10_bookNumber_J32  (μ : Mm) : Option Int32 :=
  some (-1 : Int32)
noncomputable def f_X10_bookNumber (a0 : Nat) (l1 : Int32) (μ : Mm) : Option Int32 :=
  if (mm_K μ a0).1 = 11 then (gf_P 11 1 a0 μ).bind fun x1 => (gf_I 7 2 x1 μ).bind fun x4 => if x4 = (2 : Int32) then (gf_P 11 1 a0 μ).bind fun x12 => (gf_I 7 5 x12 μ).bind fun x15 => if l1 < x15 then f_X10_bookNumber_J32 μ else (gf_P 11 1 a0 μ).bind fun x23 => (gf_I 7 5 x23 μ).bind fun x26 => some x26 else f_X10_bookNumber_J32 μ else none
abbrev Rn_X10_bookNumber (G : Gv) (Q : Option Value → Mm → Prop) (pc : Nat) (lv : List (Nat × Value)) (st : List Value) (μ : Mm) : Prop := Rn G RX10 cX10_bookNumber 2 (some .int) "bookNumber" (rmd 0 0 0) (Zm G 0 0 Q) 0 0 pc lv st μ
set_option maxRecDepth 100000 in
set_option maxHeartbeats 4000000 in
theorem m_X10_bookNumber {G : Gv} (a0 : Nat) (l1 : Int32) (μ : Mm) {r : Int32} (hx : f_X10_bookNumber a0 l1 μ = some r) : Mt G yX10_bookNumber cX10_bookNumber 2 (some .int) 0 0 0 [.ref a0, .int l1] μ (fun v μ' => v = some (.int r) ∧ μ' = μ) := by
  refine Mt.of (by decide) (Nat.le_of_ble_eq_true rfl) ?_
  show Rn_X10_bookNumber G (fun v μ' => v = some (.int r) ∧ μ' = μ) 0 [(0, .ref a0), (1, .int l1)] [] μ
  obtain ⟨_, h⟩ := Sat_ifp (show Sat (f_X10_bookNumber a0 l1 μ) (fun x => x = r) from ⟨_, hx, rfl⟩)
  have J32 : Sat (f_X10_bookNumber_J32 μ) (fun x => x = r) → Rn_X10_bookNumber G (fun v μ' => v = some (.int r) ∧ μ' = μ) 32 [] [] μ := by
    intro  h
    refine r_iconst (v := -1) dX10_bookNumber_32 (by decide) ?_
    exact r_ireturn rfl (by rw [← Sat_eq h]; exact ⟨rfl, rfl⟩) dX10_bookNumber_33
  refine r_aload_n dX10_bookNumber_0 0 rfl ?_
  obtain ⟨x1, e1, h⟩ := Sat_bind h
  refine r_getP fk_X10_21 rfl e1 dX10_bookNumber_1 ?_
  obtain ⟨x4, e4, h⟩ := Sat_bind h
  refine r_getI fk_X10_254 rfl e4 dX10_bookNumber_4 ?_
  refine r_iconst (v := 2) dX10_bookNumber_7 (by decide) ?_
  refine r_icmp_ne 32 dX10_bookNumber_8 (by decide) (fun c8 => ?_) (fun c8 => ?_)
  · have h := Sat_neg c8 h
    exact r_sub [] rfl (J32  h)
  · have h := Sat_pos c8 h
    refine r_aload_n dX10_bookNumber_11 0 rfl ?_
    obtain ⟨x12, e12, h⟩ := Sat_bind h
    refine r_getP fk_X10_21 rfl e12 dX10_bookNumber_12 ?_
    obtain ⟨x15, e15, h⟩ := Sat_bind h
    refine r_getI fk_X10_264 rfl e15 dX10_bookNumber_15 ?_
    refine r_iload_n dX10_bookNumber_18 1 rfl ?_
    refine r_icmp_gt 32 dX10_bookNumber_19 (by decide) (fun c19 => ?_) (fun c19 => ?_)
    · have h := Sat_pos c19 h
      exact r_sub [] rfl (J32  h)
    · have h := Sat_neg c19 h
      refine r_aload_n dX10_bookNumber_22 0 rfl ?_
      obtain ⟨x23, e23, h⟩ := Sat_bind h
      refine r_getP fk_X10_21 rfl e23 dX10_bookNumber_23 ?_
      obtain ⟨x26, e26, h⟩ := Sat_bind h
      refine r_getI fk_X10_264 rfl e26 dX10_bookNumber_26 ?_
      refine r_goto 33 dX10_bookNumber_29 (by decide) ?_
      exact r_ireturn rfl (by rw [← Sat_eq h]; exact ⟨rfl, rfl⟩) dX10_bookNumber_33
theorem dX4_isComing_0 : decode cX4_isComing 0 = .ok (.aload_n 0, 1) := by decide +kernel
theorem dX4_isComing_1 : decode cX4_isComing 1 = .ok (.iload_n 3, 1) := by decide +kernel
theorem dX4_isComing_2 : decode cX4_isComing 2 = .ok (.putfield 140, 3) := by decide +kernel
theorem dX4_isComing_5 : decode cX4_isComing 5 = .ok (.aload_n 0, 1) := by decide +kernel
theorem dX4_isComing_6 : decode cX4_isComing 6 = .ok (.iload 4, 2) := by decide +kernel
theorem dX4_isComing_8 : decode cX4_isComing 8 = .ok (.putfield 143, 3) := by decide +kernel
theorem dX4_isComing_11 : decode cX4_isComing 11 = .ok (.iload_n 1, 1) := by decide +kernel
theorem dX4_isComing_12 : decode cX4_isComing 12 = .ok (.iload_n 2, 1) := by decide +kernel
theorem dX4_isComing_13 : decode cX4_isComing 13 = .ok (.ishr, 1) := by decide +kernel
theorem dX4_isComing_14 : decode cX4_isComing 14 = .ok (.iconst 1, 1) := by decide +kernel
theorem dX4_isComing_15 : decode cX4_isComing 15 = .ok (.iand, 1) := by decide +kernel
theorem dX4_isComing_16 : decode cX4_isComing 16 = .ok (.ifCond .eq 7, 3) := by decide +kernel
theorem dX4_isComing_19 : decode cX4_isComing 19 = .ok (.iconst 1, 1) := by decide +kernel
theorem dX4_isComing_20 : decode cX4_isComing 20 = .ok (.goto 4, 3) := by decide +kernel
theorem dX4_isComing_23 : decode cX4_isComing 23 = .ok (.iconst 0, 1) := by decide +kernel
theorem dX4_isComing_24 : decode cX4_isComing 24 = .ok (.ireturn, 1) := by decide +kernel
noncomputable def f_X4_isComing (a0 : Nat) (l1 : Int32) (l2 : Int32) (l3 : Int32) (l4 : Int32) (μ : Mm) : Option (Int32 × Mm) :=
  if (mm_K μ a0).1 = 5 then (pf_I 5 15 a0 l3 μ).bind fun μ2 => (pf_I 5 16 a0 l4 μ2).bind fun μ8 => if ((l1 >>> (l2 &&& 31)) &&& (1 : Int32)) = 0 then some ((0 : Int32), μ8) else some ((1 : Int32), μ8) else none
abbrev Rn_X4_isComing (G : Gv) (Q : Option Value → Mm → Prop) (pc : Nat) (lv : List (Nat × Value)) (st : List Value) (μ : Mm) : Prop := Rn G RX4 cX4_isComing 5 (some .boolean) "isComing" (rmd 0 0 0) (Zm G 0 0 Q) 0 0 pc lv st μ
set_option maxRecDepth 100000 in
set_option maxHeartbeats 4000000 in
theorem m_X4_isComing {G : Gv} (a0 : Nat) (l1 : Int32) (l2 : Int32) (l3 : Int32) (l4 : Int32) (μ : Mm) {r : (Int32 × Mm)} (hx : f_X4_isComing a0 l1 l2 l3 l4 μ = some r) : Mt G yX4_isComing cX4_isComing 5 (some .boolean) 0 0 0 [.ref a0, .int l1, .int l2, .int l3, .int l4] μ (fun v μ' => v = some (.int r.1) ∧ μ' = r.2) := by
  refine Mt.of (by decide) (Nat.le_of_ble_eq_true rfl) ?_
  show Rn_X4_isComing G (fun v μ' => v = some (.int r.1) ∧ μ' = r.2) 0 [(0, .ref a0), (1, .int l1), (2, .int l2), (3, .int l3), (4, .int l4)] [] μ
  obtain ⟨_, h⟩ := Sat_ifp (show Sat (f_X4_isComing a0 l1 l2 l3 l4 μ) (fun x => x = r) from ⟨_, hx, rfl⟩)
  refine r_aload_n dX4_isComing_0 0 rfl ?_
  refine r_iload_n dX4_isComing_1 3 rfl ?_
  obtain ⟨μ2, e2, h⟩ := Sat_bind h
  refine r_putI fk_X4_140 rfl rfl e2 dX4_isComing_2 ?_
  refine r_aload_n dX4_isComing_5 0 rfl ?_
  refine r_iload dX4_isComing_6 4 rfl ?_
  obtain ⟨μ8, e8, h⟩ := Sat_bind h
  refine r_putI fk_X4_143 rfl rfl e8 dX4_isComing_8 ?_
  refine r_iload_n dX4_isComing_11 1 rfl ?_
  refine r_iload_n dX4_isComing_12 2 rfl ?_
  refine r_ishr dX4_isComing_13 ?_
  refine r_iconst (v := 1) dX4_isComing_14 (by decide) ?_
  refine r_iand dX4_isComing_15 ?_
  refine r_if_eq 23 dX4_isComing_16 (by decide) (fun c16 => ?_) (fun c16 => ?_)
  · have h := Sat_pos c16 h
    refine r_iconst (v := 0) dX4_isComing_23 (by decide) ?_
    exact r_zreturn rfl (by decide) (by rw [← Sat_eq h]; exact ⟨rfl, rfl⟩) dX4_isComing_24
  · have h := Sat_neg c16 h
    refine r_iconst (v := 1) dX4_isComing_19 (by decide) ?_
    refine r_goto 24 dX4_isComing_20 (by decide) ?_
    exact r_zreturn rfl (by decide) (by rw [← Sat_eq h]; exact ⟨rfl, rfl⟩) dX4_isComing_24
theorem dX4_partnerOf_0 : decode cX4_partnerOf 0 = .ok (.aload_n 0, 1) := by decide +kernel
theorem dX4_partnerOf_1 : decode cX4_partnerOf 1 = .ok (.getfield 33, 3) := by decide +kernel
theorem dX4_partnerOf_4 : decode cX4_partnerOf 4 = .ok (.getfield 53, 3) := by decide +kernel
theorem dX4_partnerOf_7 : decode cX4_partnerOf 7 = .ok (.iload_n 1, 1) := by decide +kernel
theorem dX4_partnerOf_8 : decode cX4_partnerOf 8 = .ok (.iconst 0, 1) := by decide +kernel
theorem dX4_partnerOf_9 : decode cX4_partnerOf 9 = .ok (.invokevirtual 49, 3) := by decide +kernel
theorem dX4_partnerOf_12 : decode cX4_partnerOf 12 = .ok (.istore_n 3, 1) := by decide +kernel
theorem dX4_partnerOf_13 : decode cX4_partnerOf 13 = .ok (.iload_n 3, 1) := by decide +kernel
theorem dX4_partnerOf_14 : decode cX4_partnerOf 14 = .ok (.iload_n 2, 1) := by decide +kernel
theorem dX4_partnerOf_15 : decode cX4_partnerOf 15 = .ok (.if_icmp .ne 18, 3) := by decide +kernel
theorem dX4_partnerOf_18 : decode cX4_partnerOf 18 = .ok (.aload_n 0, 1) := by decide +kernel
theorem dX4_partnerOf_19 : decode cX4_partnerOf 19 = .ok (.getfield 33, 3) := by decide +kernel
theorem dX4_partnerOf_22 : decode cX4_partnerOf 22 = .ok (.getfield 53, 3) := by decide +kernel
theorem dX4_partnerOf_25 : decode cX4_partnerOf 25 = .ok (.iload_n 1, 1) := by decide +kernel
theorem dX4_partnerOf_26 : decode cX4_partnerOf 26 = .ok (.iconst 1, 1) := by decide +kernel
theorem dX4_partnerOf_27 : decode cX4_partnerOf 27 = .ok (.invokevirtual 49, 3) := by decide +kernel
theorem dX4_partnerOf_30 : decode cX4_partnerOf 30 = .ok (.goto 4, 3) := by decide +kernel
theorem dX4_partnerOf_33 : decode cX4_partnerOf 33 = .ok (.iload_n 3, 1) := by decide +kernel
theorem dX4_partnerOf_34 : decode cX4_partnerOf 34 = .ok (.ireturn, 1) := by decide +kernel
noncomputable def f_X4_partnerOf (a0 : Nat) (l1 : Int32) (l2 : Int32) (μ : Mm) : Option Int32 :=
  if (mm_K μ a0).1 = 5 then (gf_P 5 7 a0 μ).bind fun x1 => (gf_P 8 4 x1 μ).bind fun x4 => (f_X2_at x4 l1 (0 : Int32) μ).bind fun x9 => if x9 = l2 then (gf_P 5 7 a0 μ).bind fun x19 => (gf_P 8 4 x19 μ).bind fun x22 => (f_X2_at x22 l1 (1 : Int32) μ).bind fun x27 => some x27 else some x9 else none
abbrev Rn_X4_partnerOf (G : Gv) (Q : Option Value → Mm → Prop) (pc : Nat) (lv : List (Nat × Value)) (st : List Value) (μ : Mm) : Prop := Rn G RX4 cX4_partnerOf 4 (some .int) "partnerOf" (rmd 1 0 0) (Zm G 0 0 Q) 0 0 pc lv st μ
set_option maxRecDepth 100000 in
set_option maxHeartbeats 4000000 in
theorem m_X4_partnerOf {G : Gv} (a0 : Nat) (l1 : Int32) (l2 : Int32) (μ : Mm) {r : Int32} (hx : f_X4_partnerOf a0 l1 l2 μ = some r) : Mt G yX4_partnerOf cX4_partnerOf 4 (some .int) 1 0 0 [.ref a0, .int l1, .int l2] μ (fun v μ' => v = some (.int r) ∧ μ' = μ) := by
  refine Mt.of (by decide) (Nat.le_of_ble_eq_true rfl) ?_
  show Rn_X4_partnerOf G (fun v μ' => v = some (.int r) ∧ μ' = μ) 0 [(0, .ref a0), (1, .int l1), (2, .int l2)] [] μ
  obtain ⟨_, h⟩ := Sat_ifp (show Sat (f_X4_partnerOf a0 l1 l2 μ) (fun x => x = r) from ⟨_, hx, rfl⟩)
  refine r_aload_n dX4_partnerOf_0 0 rfl ?_
  obtain ⟨x1, e1, h⟩ := Sat_bind h
  refine r_getP fk_X4_33 rfl e1 dX4_partnerOf_1 ?_
  obtain ⟨x4, e4, h⟩ := Sat_bind h
  refine r_getP fk_X4_53 rfl e4 dX4_partnerOf_4 ?_
  refine r_iload_n dX4_partnerOf_7 1 rfl ?_
  refine r_iconst (v := 0) dX4_partnerOf_8 (by decide) ?_
  obtain ⟨x9, e9, h⟩ := Sat_bind h
  refine r_cV (t := 3) [.int l1, .int (0 : Int32)] [] (m_X2_at x4 l1 (0 : Int32) μ e9) ck_X2_at lk_X4_49 in_X2_at se_X2_at (kd_of e9) ⟨rfl, by decide, by decide⟩ rfl rfl (Nat.le_of_ble_eq_true rfl) ⟨by decide, by decide⟩ ⟨Nat.zero_le _, Nat.zero_le _⟩ dX4_partnerOf_9 ?_
  refine r_istore_n (lv' := [(3, .int x9), (0, .ref a0), (1, .int l1), (2, .int l2)]) dX4_partnerOf_12 rfl (by decide) rfl ?_
  refine r_iload_n dX4_partnerOf_13 0 rfl ?_
  refine r_iload_n dX4_partnerOf_14 3 rfl ?_
  refine r_icmp_ne 33 dX4_partnerOf_15 (by decide) (fun c15 => ?_) (fun c15 => ?_)
  · have h := Sat_neg c15 h
    refine r_iload_n dX4_partnerOf_33 0 rfl ?_
    exact r_ireturn rfl (by rw [← Sat_eq h]; exact ⟨rfl, rfl⟩) dX4_partnerOf_34
  · have h := Sat_pos c15 h
    refine r_aload_n dX4_partnerOf_18 1 rfl ?_
    obtain ⟨x19, e19, h⟩ := Sat_bind h
    refine r_getP fk_X4_33 rfl e19 dX4_partnerOf_19 ?_
    obtain ⟨x22, e22, h⟩ := Sat_bind h
    refine r_getP fk_X4_53 rfl e22 dX4_partnerOf_22 ?_
    refine r_iload_n dX4_partnerOf_25 2 rfl ?_
    refine r_iconst (v := 1) dX4_partnerOf_26 (by decide) ?_
    obtain ⟨x27, e27, h⟩ := Sat_bind h
    refine r_cV (t := 3) [.int l1, .int (1 : Int32)] [] (m_X2_at x22 l1 (1 : Int32) μ e27) ck_X2_at lk_X4_49 in_X2_at se_X2_at (kd_of e27) ⟨rfl, by decide, by decide⟩ rfl rfl (Nat.le_of_ble_eq_true rfl) ⟨by decide, by decide⟩ ⟨Nat.zero_le _, Nat.zero_le _⟩ dX4_partnerOf_27 ?_
    refine r_goto 34 dX4_partnerOf_30 (by decide) ?_
    exact r_ireturn rfl (by rw [← Sat_eq h]; exact ⟨rfl, rfl⟩) dX4_partnerOf_34
theorem dX4_findComing_0 : decode cX4_findComing 0 = .ok (.iconst 0, 1) := by decide +kernel
theorem dX4_findComing_1 : decode cX4_findComing 1 = .ok (.istore_n 2, 1) := by decide +kernel
theorem dX4_findComing_2 : decode cX4_findComing 2 = .ok (.aload_n 0, 1) := by decide +kernel
theorem dX4_findComing_3 : decode cX4_findComing 3 = .ok (.getfield 89, 3) := by decide +kernel
theorem dX4_findComing_6 : decode cX4_findComing 6 = .ok (.istore_n 3, 1) := by decide +kernel
theorem dX4_findComing_7 : decode cX4_findComing 7 = .ok (.iload_n 3, 1) := by decide +kernel
theorem dX4_findComing_8 : decode cX4_findComing 8 = .ok (.bipush 28, 2) := by decide +kernel
theorem dX4_findComing_10 : decode cX4_findComing 10 = .ok (.if_icmp .ge 135, 3) := by decide +kernel
theorem dX4_findComing_13 : decode cX4_findComing 13 = .ok (.aload_n 0, 1) := by decide +kernel
theorem dX4_findComing_14 : decode cX4_findComing 14 = .ok (.iload_n 3, 1) := by decide +kernel
theorem dX4_findComing_15 : decode cX4_findComing 15 = .ok (.putfield 130, 3) := by decide +kernel
theorem dX4_findComing_18 : decode cX4_findComing 18 = .ok (.aload_n 0, 1) := by decide +kernel
theorem dX4_findComing_19 : decode cX4_findComing 19 = .ok (.iload_n 2, 1) := by decide +kernel
theorem dX4_findComing_20 : decode cX4_findComing 20 = .ok (.iload_n 3, 1) := by decide +kernel
theorem dX4_findComing_21 : decode cX4_findComing 21 = .ok (.invokevirtual 108, 3) := by decide +kernel
theorem dX4_findComing_24 : decode cX4_findComing 24 = .ok (.istore_n 2, 1) := by decide +kernel
theorem dX4_findComing_25 : decode cX4_findComing 25 = .ok (.aload_n 0, 1) := by decide +kernel
theorem dX4_findComing_26 : decode cX4_findComing 26 = .ok (.iload_n 2, 1) := by decide +kernel
theorem dX4_findComing_27 : decode cX4_findComing 27 = .ok (.iload_n 1, 1) := by decide +kernel
theorem dX4_findComing_28 : decode cX4_findComing 28 = .ok (.iconst 0, 1) := by decide +kernel
theorem dX4_findComing_29 : decode cX4_findComing 29 = .ok (.iconst (-1), 1) := by decide +kernel
theorem dX4_findComing_30 : decode cX4_findComing 30 = .ok (.invokevirtual 133, 3) := by decide +kernel
theorem dX4_findComing_33 : decode cX4_findComing 33 = .ok (.ifCond .eq 5, 3) := by decide +kernel
theorem dX4_findComing_36 : decode cX4_findComing 36 = .ok (.iconst 1, 1) := by decide +kernel
theorem dX4_findComing_37 : decode cX4_findComing 37 = .ok (.ireturn, 1) := by decide +kernel
theorem dX4_findComing_38 : decode cX4_findComing 38 = .ok (.aload_n 0, 1) := by decide +kernel
theorem dX4_findComing_39 : decode cX4_findComing 39 = .ok (.iload_n 2, 1) := by decide +kernel
theorem dX4_findComing_40 : decode cX4_findComing 40 = .ok (.iload_n 3, 1) := by decide +kernel
theorem dX4_findComing_41 : decode cX4_findComing 41 = .ok (.invokevirtual 111, 3) := by decide +kernel
theorem dX4_findComing_44 : decode cX4_findComing 44 = .ok (.istore_n 2, 1) := by decide +kernel
theorem dX4_findComing_45 : decode cX4_findComing 45 = .ok (.aload_n 0, 1) := by decide +kernel
theorem dX4_findComing_46 : decode cX4_findComing 46 = .ok (.iload_n 2, 1) := by decide +kernel
theorem dX4_findComing_47 : decode cX4_findComing 47 = .ok (.iload_n 1, 1) := by decide +kernel
theorem dX4_findComing_48 : decode cX4_findComing 48 = .ok (.iconst 1, 1) := by decide +kernel
theorem dX4_findComing_49 : decode cX4_findComing 49 = .ok (.aload_n 0, 1) := by decide +kernel
theorem dX4_findComing_50 : decode cX4_findComing 50 = .ok (.getfield 21, 3) := by decide +kernel
theorem dX4_findComing_53 : decode cX4_findComing 53 = .ok (.iload_n 1, 1) := by decide +kernel
theorem dX4_findComing_54 : decode cX4_findComing 54 = .ok (.iaload, 1) := by decide +kernel
theorem dX4_findComing_55 : decode cX4_findComing 55 = .ok (.invokevirtual 133, 3) := by decide +kernel
theorem dX4_findComing_58 : decode cX4_findComing 58 = .ok (.ifCond .eq 5, 3) := by decide +kernel
theorem dX4_findComing_61 : decode cX4_findComing 61 = .ok (.iconst 1, 1) := by decide +kernel
theorem dX4_findComing_62 : decode cX4_findComing 62 = .ok (.ireturn, 1) := by decide +kernel
theorem dX4_findComing_63 : decode cX4_findComing 63 = .ok (.iconst 0, 1) := by decide +kernel
theorem dX4_findComing_64 : decode cX4_findComing 64 = .ok (.istore 4, 2) := by decide +kernel
theorem dX4_findComing_66 : decode cX4_findComing 66 = .ok (.iload 4, 2) := by decide +kernel
theorem dX4_findComing_68 : decode cX4_findComing 68 = .ok (.aload_n 0, 1) := by decide +kernel
theorem dX4_findComing_69 : decode cX4_findComing 69 = .ok (.getfield 30, 3) := by decide +kernel
theorem dX4_findComing_72 : decode cX4_findComing 72 = .ok (.arraylength, 1) := by decide +kernel
theorem dX4_findComing_73 : decode cX4_findComing 73 = .ok (.if_icmp .ge 41, 3) := by decide +kernel
theorem dX4_findComing_76 : decode cX4_findComing 76 = .ok (.aload_n 0, 1) := by decide +kernel
theorem dX4_findComing_77 : decode cX4_findComing 77 = .ok (.iload_n 2, 1) := by decide +kernel
theorem dX4_findComing_78 : decode cX4_findComing 78 = .ok (.iload_n 3, 1) := by decide +kernel
theorem dX4_findComing_79 : decode cX4_findComing 79 = .ok (.iload 4, 2) := by decide +kernel
theorem dX4_findComing_81 : decode cX4_findComing 81 = .ok (.iload 4, 2) := by decide +kernel
theorem dX4_findComing_83 : decode cX4_findComing 83 = .ok (.iconst 1, 1) := by decide +kernel
theorem dX4_findComing_84 : decode cX4_findComing 84 = .ok (.iadd, 1) := by decide +kernel
theorem dX4_findComing_85 : decode cX4_findComing 85 = .ok (.invokevirtual 114, 3) := by decide +kernel
theorem dX4_findComing_88 : decode cX4_findComing 88 = .ok (.istore_n 2, 1) := by decide +kernel
theorem dX4_findComing_89 : decode cX4_findComing 89 = .ok (.aload_n 0, 1) := by decide +kernel
theorem dX4_findComing_90 : decode cX4_findComing 90 = .ok (.iload_n 2, 1) := by decide +kernel
theorem dX4_findComing_91 : decode cX4_findComing 91 = .ok (.iload_n 1, 1) := by decide +kernel
theorem dX4_findComing_92 : decode cX4_findComing 92 = .ok (.iconst 2, 1) := by decide +kernel
theorem dX4_findComing_93 : decode cX4_findComing 93 = .ok (.aload_n 0, 1) := by decide +kernel
theorem dX4_findComing_94 : decode cX4_findComing 94 = .ok (.iload 4, 2) := by decide +kernel
theorem dX4_findComing_96 : decode cX4_findComing 96 = .ok (.iload_n 1, 1) := by decide +kernel
theorem dX4_findComing_97 : decode cX4_findComing 97 = .ok (.invokevirtual 137, 3) := by decide +kernel
theorem dX4_findComing_100 : decode cX4_findComing 100 = .ok (.invokevirtual 133, 3) := by decide +kernel
theorem dX4_findComing_103 : decode cX4_findComing 103 = .ok (.ifCond .eq 5, 3) := by decide +kernel
theorem dX4_findComing_106 : decode cX4_findComing 106 = .ok (.iconst 1, 1) := by decide +kernel
theorem dX4_findComing_107 : decode cX4_findComing 107 = .ok (.ireturn, 1) := by decide +kernel
theorem dX4_findComing_108 : decode cX4_findComing 108 = .ok (.iinc 4 1, 3) := by decide +kernel
theorem dX4_findComing_111 : decode cX4_findComing 111 = .ok (.goto (-45), 3) := by decide +kernel
theorem dX4_findComing_114 : decode cX4_findComing 114 = .ok (.aload_n 0, 1) := by decide +kernel
theorem dX4_findComing_115 : decode cX4_findComing 115 = .ok (.iload_n 2, 1) := by decide +kernel
theorem dX4_findComing_116 : decode cX4_findComing 116 = .ok (.iload_n 3, 1) := by decide +kernel
theorem dX4_findComing_117 : decode cX4_findComing 117 = .ok (.invokevirtual 121, 3) := by decide +kernel
theorem dX4_findComing_120 : decode cX4_findComing 120 = .ok (.istore_n 2, 1) := by decide +kernel
theorem dX4_findComing_121 : decode cX4_findComing 121 = .ok (.aload_n 0, 1) := by decide +kernel
theorem dX4_findComing_122 : decode cX4_findComing 122 = .ok (.iload_n 2, 1) := by decide +kernel
theorem dX4_findComing_123 : decode cX4_findComing 123 = .ok (.iload_n 1, 1) := by decide +kernel
theorem dX4_findComing_124 : decode cX4_findComing 124 = .ok (.iconst 3, 1) := by decide +kernel
theorem dX4_findComing_125 : decode cX4_findComing 125 = .ok (.aload_n 0, 1) := by decide +kernel
theorem dX4_findComing_126 : decode cX4_findComing 126 = .ok (.getfield 21, 3) := by decide +kernel
theorem dX4_findComing_129 : decode cX4_findComing 129 = .ok (.iload_n 1, 1) := by decide +kernel
theorem dX4_findComing_130 : decode cX4_findComing 130 = .ok (.iaload, 1) := by decide +kernel
theorem dX4_findComing_131 : decode cX4_findComing 131 = .ok (.invokevirtual 133, 3) := by decide +kernel
theorem dX4_findComing_134 : decode cX4_findComing 134 = .ok (.ifCond .eq 5, 3) := by decide +kernel
theorem dX4_findComing_137 : decode cX4_findComing 137 = .ok (.iconst 1, 1) := by decide +kernel
theorem dX4_findComing_138 : decode cX4_findComing 138 = .ok (.ireturn, 1) := by decide +kernel
theorem dX4_findComing_139 : decode cX4_findComing 139 = .ok (.iinc 3 1, 3) := by decide +kernel
theorem dX4_findComing_142 : decode cX4_findComing 142 = .ok (.goto (-135), 3) := by decide +kernel
theorem dX4_findComing_145 : decode cX4_findComing 145 = .ok (.iconst 0, 1) := by decide +kernel
theorem dX4_findComing_146 : decode cX4_findComing 146 = .ok (.ireturn, 1) := by decide +kernel
noncomputable def f_X4_findComing_J114 (a0 : Nat) (l1 : Int32) (l2 : Int32) (l3 : Int32) (μ : Mm) : Option ((Int32 × Int32 × Mm) ⊕ ((Mm) ⊕ ((Mm) ⊕ ((Mm) ⊕ ((Mm) ⊕ (Mm)))))) :=
  (f_X4_byNight a0 l2 l3 μ).bind fun x117 => (gf_P 5 3 a0 μ).bind fun x126 => (ga_I x126 l1 μ).bind fun x130 => (f_X4_isComing a0 x117 l1 (3 : Int32) x130 μ).bind fun x131 => if x131.1 = 0 then (some (l3 + (1 : Int32))).bind fun v139 => some (.inl (x117, v139, x131.2)) else some (.inr (.inr (.inr (.inr (.inl x131.2)))))
noncomputable def f_X4_findComing_L66 (a0 : Nat) (l1 : Int32) (l3 : Int32) (s66 : Int32 × Int32 × Mm) : Option ((Int32 × Int32 × Mm) ⊕ ((Mm) ⊕ (Int32 × Mm))) :=
  (gf_P 5 6 a0 s66.2.2).bind fun x69 => (ga_len x69 s66.2.2).bind fun x72 => if x72 ≤ s66.2.1 then some (.inr (.inr (s66.1, s66.2.2))) else (f_X4_byTalks a0 s66.1 l3 s66.2.1 (s66.2.1 + (1 : Int32)) s66.2.2).bind fun x85 => (f_X4_partnerOf a0 s66.2.1 l1 s66.2.2).bind fun x97 => (f_X4_isComing a0 x85 l1 (2 : Int32) x97 s66.2.2).bind fun x100 => if x100.1 = 0 then (some (s66.2.1 + (1 : Int32))).bind fun v108 => some (.inl (x85, v108, x100.2)) else some (.inr (.inl x100.2))
noncomputable def f_X4_findComing_L7 (a0 : Nat) (l1 : Int32) (s7 : Int32 × Int32 × Mm) : Option ((Int32 × Int32 × Mm) ⊕ ((Mm) ⊕ ((Mm) ⊕ ((Mm) ⊕ ((Mm) ⊕ (Mm)))))) :=
  if (28 : Int32) ≤ s7.2.1 then some (.inr (.inr (.inr (.inr (.inr s7.2.2))))) else (pf_I 5 14 a0 s7.2.1 s7.2.2).bind fun μ15 => (f_X4_byItself a0 s7.1 s7.2.1 μ15).bind fun x21 => (f_X4_isComing a0 x21 l1 (0 : Int32) (-1 : Int32) μ15).bind fun x30 => if x30.1 = 0 then (f_X4_byNaps a0 x21 s7.2.1 x30.2).bind fun x41 => (gf_P 5 3 a0 x30.2).bind fun x50 => (ga_I x50 l1 x30.2).bind fun x54 => (f_X4_isComing a0 x41 l1 (1 : Int32) x54 x30.2).bind fun x55 => if x55.1 = 0 then (whl (f_X4_findComing_L66 a0 l1 s7.2.1) (x41, (0 : Int32), x55.2)).bind (sm (fun b66 => some (.inr (.inr (.inr (.inl b66))))) (fun b66 => f_X4_findComing_J114 a0 l1 b66.1 s7.2.1 b66.2)) else some (.inr (.inr (.inl x55.2))) else some (.inr (.inl x30.2))
noncomputable def f_X4_findComing (a0 : Nat) (l1 : Int32) (μ : Mm) : Option (Int32 × Mm) :=
  if (mm_K μ a0).1 = 5 then (gf_I 5 8 a0 μ).bind fun x3 => (whl (f_X4_findComing_L7 a0 l1) ((0 : Int32), x3, μ)).bind (sm (fun b7 => some ((1 : Int32), b7)) (sm (fun b7 => some ((1 : Int32), b7)) (sm (fun b7 => some ((1 : Int32), b7)) (sm (fun b7 => some ((1 : Int32), b7)) (fun b7 => some ((0 : Int32), b7)))))) else none
abbrev Rn_X4_findComing (G : Gv) (Q : Option Value → Mm → Prop) (pc : Nat) (lv : List (Nat × Value)) (st : List Value) (μ : Mm) : Prop := Rn G RX4 cX4_findComing 5 (some .boolean) "findComing" (rmd 2 0 0) (Zm G 0 0 Q) 0 0 pc lv st μ
set_option maxRecDepth 100000 in
set_option maxHeartbeats 4000000 in
theorem m_X4_findComing {G : Gv} (a0 : Nat) (l1 : Int32) (μ : Mm) {r : (Int32 × Mm)} (hx : f_X4_findComing a0 l1 μ = some r) : Mt G yX4_findComing cX4_findComing 5 (some .boolean) 2 0 0 [.ref a0, .int l1] μ (fun v μ' => v = some (.int r.1) ∧ μ' = r.2) := by
  refine Mt.of (by decide) (Nat.le_of_ble_eq_true rfl) ?_
  show Rn_X4_findComing G (fun v μ' => v = some (.int r.1) ∧ μ' = r.2) 0 [(0, .ref a0), (1, .int l1)] [] μ
  obtain ⟨_, h⟩ := Sat_ifp (show Sat (f_X4_findComing a0 l1 μ) (fun x => x = r) from ⟨_, hx, rfl⟩)
  refine r_iconst (v := 0) dX4_findComing_0 (by decide) ?_
  refine r_istore_n (lv' := [(2, .int (0 : Int32)), (0, .ref a0), (1, .int l1)]) dX4_findComing_1 rfl (by decide) rfl ?_
  refine r_aload_n dX4_findComing_2 1 rfl ?_
  obtain ⟨x3, e3, h⟩ := Sat_bind h
  refine r_getI fk_X4_89 rfl e3 dX4_findComing_3 ?_
  refine r_istore_n (lv' := [(3, .int x3), (2, .int (0 : Int32)), (0, .ref a0), (1, .int l1)]) dX4_findComing_6 rfl (by decide) rfl ?_
  refine r_sub (lv' := [(0, .ref a0), (1, .int l1), (2, .int (0 : Int32)), (3, .int x3)]) [2, 3, 1, 0] rfl ?_
  refine whl_K (s0 := (((0 : Int32), x3, μ) : Int32 × Int32 × Mm)) (RR := fun (s7 : Int32 × Int32 × Mm) => Rn_X4_findComing G (fun v μ' => v = some (.int r.1) ∧ μ' = r.2) 7 [(0, .ref a0), (1, .int l1), (2, .int s7.1), (3, .int s7.2.1)] [] s7.2.2) ?_ (Sat_bindK h)
  intro s7 K7 hI7 hX7 h
  have J114 : ∀ (l2_114 : Int32) (l3_114 : Int32) (μ_114 : Mm), Sat (f_X4_findComing_J114 a0 l1 l2_114 l3_114 μ_114) K7 → Rn_X4_findComing G (fun v μ' => v = some (.int r.1) ∧ μ' = r.2) 114 [(0, .ref a0), (1, .int l1), (2, .int l2_114), (3, .int l3_114)] [] μ_114 := by
    intro l2_114 l3_114 μ_114 h
    refine r_aload_n dX4_findComing_114 0 rfl ?_
    refine r_iload_n dX4_findComing_115 2 rfl ?_
    refine r_iload_n dX4_findComing_116 3 rfl ?_
    obtain ⟨x117, e117, h⟩ := Sat_bind h
    refine r_cV (t := 5) [.int l2_114, .int l3_114] [] (m_X4_byNight a0 l2_114 l3_114 μ_114 e117) ck_X4_byNight lk_X4_121 in_X4_byNight se_X4_byNight (kd_of e117) ⟨rfl, by decide, by decide⟩ rfl rfl (Nat.le_of_ble_eq_true rfl) ⟨by decide, by decide⟩ ⟨Nat.zero_le _, Nat.zero_le _⟩ dX4_findComing_117 ?_
    refine r_istore_n (lv' := [(2, .int x117), (0, .ref a0), (1, .int l1), (3, .int l3_114)]) dX4_findComing_120 rfl (by decide) rfl ?_
    refine r_aload_n dX4_findComing_121 1 rfl ?_
    refine r_iload_n dX4_findComing_122 0 rfl ?_
    refine r_iload_n dX4_findComing_123 2 rfl ?_
    refine r_iconst (v := 3) dX4_findComing_124 (by decide) ?_
    refine r_aload_n dX4_findComing_125 1 rfl ?_
    obtain ⟨x126, e126, h⟩ := Sat_bind h
    refine r_getP fk_X4_21 rfl e126 dX4_findComing_126 ?_
    refine r_iload_n dX4_findComing_129 2 rfl ?_
    obtain ⟨x130, e130, h⟩ := Sat_bind h
    refine r_iaload e130 dX4_findComing_130 ?_
    obtain ⟨x131, e131, h⟩ := Sat_bind h
    refine r_cV (t := 5) [.int x117, .int l1, .int (3 : Int32), .int x130] [] (m_X4_isComing a0 x117 l1 (3 : Int32) x130 μ_114 e131) ck_X4_isComing lk_X4_133 in_X4_isComing se_X4_isComing (kd_of e131) ⟨rfl, by decide, by decide⟩ rfl rfl (Nat.le_of_ble_eq_true rfl) ⟨by decide, by decide⟩ ⟨Nat.zero_le _, Nat.zero_le _⟩ dX4_findComing_131 ?_
    refine r_if_eq 139 dX4_findComing_134 (by decide) (fun c134 => ?_) (fun c134 => ?_)
    · have h := Sat_pos c134 h
      obtain ⟨v139, e139, h⟩ := Sat_bind h
      refine r_iinc (j := 3) (v := v139) (lv' := [(3, .int v139), (2, .int x117), (0, .ref a0), (1, .int l1)]) dX4_findComing_139 rfl (iinc_v e139 (by decide)) (by decide) rfl ?_
      refine r_goto 7 dX4_findComing_142 (by decide) ?_
      exact r_sub [2, 3, 1, 0] rfl (hI7 _ (Sat_some h))
    · have h := Sat_neg c134 h
      have h := hX7 _ (Sat_some h)
      refine r_iconst (v := 1) dX4_findComing_137 (by decide) ?_
      exact r_zreturn rfl (by decide) (by rw [← Sat_eq h]; exact ⟨rfl, rfl⟩) dX4_findComing_138
  refine r_iload_n dX4_findComing_7 3 rfl ?_
  refine r_bipush (v := 28) dX4_findComing_8 (by decide) ?_
  refine r_icmp_ge 145 dX4_findComing_10 (by decide) (fun c10 => ?_) (fun c10 => ?_)
  · have h := Sat_pos c10 h
    have h := hX7 _ (Sat_some h)
    refine r_iconst (v := 0) dX4_findComing_145 (by decide) ?_
    exact r_zreturn rfl (by decide) (by rw [← Sat_eq h]; exact ⟨rfl, rfl⟩) dX4_findComing_146
  · have h := Sat_neg c10 h
    refine r_aload_n dX4_findComing_13 0 rfl ?_
    refine r_iload_n dX4_findComing_14 3 rfl ?_
    obtain ⟨μ15, e15, h⟩ := Sat_bind h
    refine r_putI fk_X4_130 rfl rfl e15 dX4_findComing_15 ?_
    refine r_aload_n dX4_findComing_18 0 rfl ?_
    refine r_iload_n dX4_findComing_19 2 rfl ?_
    refine r_iload_n dX4_findComing_20 3 rfl ?_
    obtain ⟨x21, e21, h⟩ := Sat_bind h
    refine r_cV (t := 5) [.int s7.1, .int s7.2.1] [] (m_X4_byItself a0 s7.1 s7.2.1 μ15 e21) ck_X4_byItself lk_X4_108 in_X4_byItself se_X4_byItself (kd_of e21) ⟨rfl, by decide, by decide⟩ rfl rfl (Nat.le_of_ble_eq_true rfl) ⟨by decide, by decide⟩ ⟨Nat.zero_le _, Nat.zero_le _⟩ dX4_findComing_21 ?_
    refine r_istore_n (lv' := [(2, .int x21), (0, .ref a0), (1, .int l1), (3, .int s7.2.1)]) dX4_findComing_24 rfl (by decide) rfl ?_
    refine r_aload_n dX4_findComing_25 1 rfl ?_
    refine r_iload_n dX4_findComing_26 0 rfl ?_
    refine r_iload_n dX4_findComing_27 2 rfl ?_
    refine r_iconst (v := 0) dX4_findComing_28 (by decide) ?_
    refine r_iconst (v := -1) dX4_findComing_29 (by decide) ?_
    obtain ⟨x30, e30, h⟩ := Sat_bind h
    refine r_cV (t := 5) [.int x21, .int l1, .int (0 : Int32), .int (-1 : Int32)] [] (m_X4_isComing a0 x21 l1 (0 : Int32) (-1 : Int32) μ15 e30) ck_X4_isComing lk_X4_133 in_X4_isComing se_X4_isComing (kd_of e30) ⟨rfl, by decide, by decide⟩ rfl rfl (Nat.le_of_ble_eq_true rfl) ⟨by decide, by decide⟩ ⟨Nat.zero_le _, Nat.zero_le _⟩ dX4_findComing_30 ?_
    refine r_if_eq 38 dX4_findComing_33 (by decide) (fun c33 => ?_) (fun c33 => ?_)
    · have h := Sat_pos c33 h
      refine r_aload_n dX4_findComing_38 1 rfl ?_
      refine r_iload_n dX4_findComing_39 0 rfl ?_
      refine r_iload_n dX4_findComing_40 3 rfl ?_
      obtain ⟨x41, e41, h⟩ := Sat_bind h
      refine r_cV (t := 5) [.int x21, .int s7.2.1] [] (m_X4_byNaps a0 x21 s7.2.1 x30.2 e41) ck_X4_byNaps lk_X4_111 in_X4_byNaps se_X4_byNaps (kd_of e41) ⟨rfl, by decide, by decide⟩ rfl rfl (Nat.le_of_ble_eq_true rfl) ⟨by decide, by decide⟩ ⟨Nat.zero_le _, Nat.zero_le _⟩ dX4_findComing_41 ?_
      refine r_istore_n (lv' := [(2, .int x41), (0, .ref a0), (1, .int l1), (3, .int s7.2.1)]) dX4_findComing_44 rfl (by decide) rfl ?_
      refine r_aload_n dX4_findComing_45 1 rfl ?_
      refine r_iload_n dX4_findComing_46 0 rfl ?_
      refine r_iload_n dX4_findComing_47 2 rfl ?_
      refine r_iconst (v := 1) dX4_findComing_48 (by decide) ?_
      refine r_aload_n dX4_findComing_49 1 rfl ?_
      obtain ⟨x50, e50, h⟩ := Sat_bind h
      refine r_getP fk_X4_21 rfl e50 dX4_findComing_50 ?_
      refine r_iload_n dX4_findComing_53 2 rfl ?_
      obtain ⟨x54, e54, h⟩ := Sat_bind h
      refine r_iaload e54 dX4_findComing_54 ?_
      obtain ⟨x55, e55, h⟩ := Sat_bind h
      refine r_cV (t := 5) [.int x41, .int l1, .int (1 : Int32), .int x54] [] (m_X4_isComing a0 x41 l1 (1 : Int32) x54 x30.2 e55) ck_X4_isComing lk_X4_133 in_X4_isComing se_X4_isComing (kd_of e55) ⟨rfl, by decide, by decide⟩ rfl rfl (Nat.le_of_ble_eq_true rfl) ⟨by decide, by decide⟩ ⟨Nat.zero_le _, Nat.zero_le _⟩ dX4_findComing_55 ?_
      refine r_if_eq 63 dX4_findComing_58 (by decide) (fun c58 => ?_) (fun c58 => ?_)
      · have h := Sat_pos c58 h
        refine r_iconst (v := 0) dX4_findComing_63 (by decide) ?_
        refine r_istore (lv' := [(4, .int (0 : Int32)), (2, .int x41), (0, .ref a0), (1, .int l1), (3, .int s7.2.1)]) dX4_findComing_64 (by decide) rfl ?_
        refine r_sub (lv' := [(0, .ref a0), (1, .int l1), (2, .int x41), (3, .int s7.2.1), (4, .int (0 : Int32))]) [2, 3, 1, 4, 0] rfl ?_
        refine whl_K (s0 := ((x41, (0 : Int32), x55.2) : Int32 × Int32 × Mm)) (RR := fun (s66 : Int32 × Int32 × Mm) => Rn_X4_findComing G (fun v μ' => v = some (.int r.1) ∧ μ' = r.2) 66 [(0, .ref a0), (1, .int l1), (2, .int s66.1), (3, .int s7.2.1), (4, .int s66.2.1)] [] s66.2.2) ?_ (Sat_bindK h)
        intro s66 K66 hI66 hX66 h
        refine r_iload dX4_findComing_66 4 rfl ?_
        refine r_aload_n dX4_findComing_68 0 rfl ?_
        obtain ⟨x69, e69, h⟩ := Sat_bind h
        refine r_getP fk_X4_30 rfl e69 dX4_findComing_69 ?_
        obtain ⟨x72, e72, h⟩ := Sat_bind h
        refine r_len e72 dX4_findComing_72 ?_
        refine r_icmp_ge 114 dX4_findComing_73 (by decide) (fun c73 => ?_) (fun c73 => ?_)
        · have h := Sat_pos c73 h
          have h := hX66 _ (Sat_some h)
          exact r_sub [0, 1, 2, 3] rfl (J114 s66.1 s7.2.1 s66.2.2 h)
        · have h := Sat_neg c73 h
          refine r_aload_n dX4_findComing_76 0 rfl ?_
          refine r_iload_n dX4_findComing_77 2 rfl ?_
          refine r_iload_n dX4_findComing_78 3 rfl ?_
          refine r_iload dX4_findComing_79 4 rfl ?_
          refine r_iload dX4_findComing_81 4 rfl ?_
          refine r_iconst (v := 1) dX4_findComing_83 (by decide) ?_
          refine r_iadd dX4_findComing_84 ?_
          obtain ⟨x85, e85, h⟩ := Sat_bind h
          refine r_cV (t := 5) [.int s66.1, .int s7.2.1, .int s66.2.1, .int (s66.2.1 + (1 : Int32))] [] (m_X4_byTalks a0 s66.1 s7.2.1 s66.2.1 (s66.2.1 + (1 : Int32)) s66.2.2 e85) ck_X4_byTalks lk_X4_114 in_X4_byTalks se_X4_byTalks (kd_of e85) ⟨rfl, by decide, by decide⟩ rfl rfl (Nat.le_of_ble_eq_true rfl) ⟨by decide, by decide⟩ ⟨Nat.zero_le _, Nat.zero_le _⟩ dX4_findComing_85 ?_
          refine r_istore_n (lv' := [(2, .int x85), (0, .ref a0), (1, .int l1), (3, .int s7.2.1), (4, .int s66.2.1)]) dX4_findComing_88 rfl (by decide) rfl ?_
          refine r_aload_n dX4_findComing_89 1 rfl ?_
          refine r_iload_n dX4_findComing_90 0 rfl ?_
          refine r_iload_n dX4_findComing_91 2 rfl ?_
          refine r_iconst (v := 2) dX4_findComing_92 (by decide) ?_
          refine r_aload_n dX4_findComing_93 1 rfl ?_
          refine r_iload dX4_findComing_94 4 rfl ?_
          refine r_iload_n dX4_findComing_96 2 rfl ?_
          obtain ⟨x97, e97, h⟩ := Sat_bind h
          refine r_cV (t := 5) [.int s66.2.1, .int l1] [.int (2 : Int32), .int l1, .int x85, .ref a0] (m_X4_partnerOf a0 s66.2.1 l1 s66.2.2 e97) ck_X4_partnerOf lk_X4_137 in_X4_partnerOf se_X4_partnerOf (kd_of e97) ⟨rfl, by decide, by decide⟩ rfl rfl (Nat.le_of_ble_eq_true rfl) ⟨by decide, by decide⟩ ⟨Nat.zero_le _, Nat.zero_le _⟩ dX4_findComing_97 ?_
          obtain ⟨x100, e100, h⟩ := Sat_bind h
          refine r_cV (t := 5) [.int x85, .int l1, .int (2 : Int32), .int x97] [] (m_X4_isComing a0 x85 l1 (2 : Int32) x97 s66.2.2 e100) ck_X4_isComing lk_X4_133 in_X4_isComing se_X4_isComing (kd_of e100) ⟨rfl, by decide, by decide⟩ rfl rfl (Nat.le_of_ble_eq_true rfl) ⟨by decide, by decide⟩ ⟨Nat.zero_le _, Nat.zero_le _⟩ dX4_findComing_100 ?_
          refine r_if_eq 108 dX4_findComing_103 (by decide) (fun c103 => ?_) (fun c103 => ?_)
          · have h := Sat_pos c103 h
            obtain ⟨v108, e108, h⟩ := Sat_bind h
            refine r_iinc (j := 4) (v := v108) (lv' := [(4, .int v108), (2, .int x85), (0, .ref a0), (1, .int l1), (3, .int s7.2.1)]) dX4_findComing_108 rfl (iinc_v e108 (by decide)) (by decide) rfl ?_
            refine r_goto 66 dX4_findComing_111 (by decide) ?_
            exact r_sub [2, 3, 1, 4, 0] rfl (hI66 _ (Sat_some h))
          · have h := Sat_neg c103 h
            have h := hX66 _ (Sat_some h)
            have h := hX7 _ (Sat_some h)
            refine r_iconst (v := 1) dX4_findComing_106 (by decide) ?_
            exact r_zreturn rfl (by decide) (by rw [← Sat_eq h]; exact ⟨rfl, rfl⟩) dX4_findComing_107
      · have h := Sat_neg c58 h
        have h := hX7 _ (Sat_some h)
        refine r_iconst (v := 1) dX4_findComing_61 (by decide) ?_
        exact r_zreturn rfl (by decide) (by rw [← Sat_eq h]; exact ⟨rfl, rfl⟩) dX4_findComing_62
    · have h := Sat_neg c33 h
      have h := hX7 _ (Sat_some h)
      refine r_iconst (v := 1) dX4_findComing_36 (by decide) ?_
      exact r_zreturn rfl (by decide) (by rw [← Sat_eq h]; exact ⟨rfl, rfl⟩) dX4_findComing_37
theorem dX10_comes_0 : decode cX10_comes 0 = .ok (.aload_n 0, 1) := by decide +kernel
theorem dX10_comes_1 : decode cX10_comes 1 = .ok (.getfield 63, 3) := by decide +kernel
theorem dX10_comes_4 : decode cX10_comes 4 = .ok (.iload_n 1, 1) := by decide +kernel
theorem dX10_comes_5 : decode cX10_comes 5 = .ok (.invokevirtual 178, 3) := by decide +kernel
theorem dX10_comes_8 : decode cX10_comes 8 = .ok (.ifCond .eq 21, 3) := by decide +kernel
theorem dX10_comes_11 : decode cX10_comes 11 = .ok (.aload_n 0, 1) := by decide +kernel
theorem dX10_comes_12 : decode cX10_comes 12 = .ok (.getfield 63, 3) := by decide +kernel
theorem dX10_comes_15 : decode cX10_comes 15 = .ok (.iload_n 2, 1) := by decide +kernel
theorem dX10_comes_16 : decode cX10_comes 16 = .ok (.invokevirtual 188, 3) := by decide +kernel
theorem dX10_comes_19 : decode cX10_comes 19 = .ok (.ifCond .eq 10, 3) := by decide +kernel
theorem dX10_comes_22 : decode cX10_comes 22 = .ok (.iload_n 3, 1) := by decide +kernel
theorem dX10_comes_23 : decode cX10_comes 23 = .ok (.invokestatic 217, 3) := by decide +kernel
theorem dX10_comes_26 : decode cX10_comes 26 = .ok (.ifCond .ne 6, 3) := by decide +kernel
theorem dX10_comes_29 : decode cX10_comes 29 = .ok (.bipush (-2), 2) := by decide +kernel
theorem dX10_comes_31 : decode cX10_comes 31 = .ok (.ireturn, 1) := by decide +kernel
theorem dX10_comes_32 : decode cX10_comes 32 = .ok (.iload 4, 2) := by decide +kernel
theorem dX10_comes_34 : decode cX10_comes 34 = .ok (.ifCond .lt 9, 3) := by decide +kernel
theorem dX10_comes_37 : decode cX10_comes 37 = .ok (.iload 4, 2) := by decide +kernel
theorem dX10_comes_39 : decode cX10_comes 39 = .ok (.iconst 2, 1) := by decide +kernel
theorem dX10_comes_40 : decode cX10_comes 40 = .ok (.if_icmp .le 6, 3) := by decide +kernel
theorem dX10_comes_43 : decode cX10_comes 43 = .ok (.bipush (-2), 2) := by decide +kernel
theorem dX10_comes_45 : decode cX10_comes 45 = .ok (.ireturn, 1) := by decide +kernel
theorem dX10_comes_46 : decode cX10_comes 46 = .ok (.aload_n 0, 1) := by decide +kernel
theorem dX10_comes_47 : decode cX10_comes 47 = .ok (.getfield 84, 3) := by decide +kernel
theorem dX10_comes_50 : decode cX10_comes 50 = .ok (.aload_n 0, 1) := by decide +kernel
theorem dX10_comes_51 : decode cX10_comes 51 = .ok (.getfield 116, 3) := by decide +kernel
theorem dX10_comes_54 : decode cX10_comes 54 = .ok (.invokevirtual 220, 3) := by decide +kernel
theorem dX10_comes_57 : decode cX10_comes 57 = .ok (.aload_n 0, 1) := by decide +kernel
theorem dX10_comes_58 : decode cX10_comes 58 = .ok (.getfield 84, 3) := by decide +kernel
theorem dX10_comes_61 : decode cX10_comes 61 = .ok (.iload_n 2, 1) := by decide +kernel
theorem dX10_comes_62 : decode cX10_comes 62 = .ok (.iload_n 3, 1) := by decide +kernel
theorem dX10_comes_63 : decode cX10_comes 63 = .ok (.iconst 0, 1) := by decide +kernel
theorem dX10_comes_64 : decode cX10_comes 64 = .ok (.invokevirtual 223, 3) := by decide +kernel
theorem dX10_comes_67 : decode cX10_comes 67 = .ok (.aload_n 0, 1) := by decide +kernel
theorem dX10_comes_68 : decode cX10_comes 68 = .ok (.getfield 84, 3) := by decide +kernel
theorem dX10_comes_71 : decode cX10_comes 71 = .ok (.iload_n 1, 1) := by decide +kernel
theorem dX10_comes_72 : decode cX10_comes 72 = .ok (.invokevirtual 230, 3) := by decide +kernel
theorem dX10_comes_75 : decode cX10_comes 75 = .ok (.ifCond .ne 5, 3) := by decide +kernel
theorem dX10_comes_78 : decode cX10_comes 78 = .ok (.iconst (-1), 1) := by decide +kernel
theorem dX10_comes_79 : decode cX10_comes 79 = .ok (.ireturn, 1) := by decide +kernel
theorem dX10_comes_80 : decode cX10_comes 80 = .ok (.iload 4, 2) := by decide +kernel
theorem dX10_comes_82 : decode cX10_comes 82 = .ok (.ifCond .ne 11, 3) := by decide +kernel
theorem dX10_comes_85 : decode cX10_comes 85 = .ok (.aload_n 0, 1) := by decide +kernel
theorem dX10_comes_86 : decode cX10_comes 86 = .ok (.getfield 84, 3) := by decide +kernel
theorem dX10_comes_89 : decode cX10_comes 89 = .ok (.getfield 233, 3) := by decide +kernel
theorem dX10_comes_92 : decode cX10_comes 92 = .ok (.ireturn, 1) := by decide +kernel
theorem dX10_comes_93 : decode cX10_comes 93 = .ok (.iload 4, 2) := by decide +kernel
theorem dX10_comes_95 : decode cX10_comes 95 = .ok (.iconst 1, 1) := by decide +kernel
theorem dX10_comes_96 : decode cX10_comes 96 = .ok (.if_icmp .ne 13, 3) := by decide +kernel
theorem dX10_comes_99 : decode cX10_comes 99 = .ok (.aload_n 0, 1) := by decide +kernel
theorem dX10_comes_100 : decode cX10_comes 100 = .ok (.getfield 84, 3) := by decide +kernel
theorem dX10_comes_103 : decode cX10_comes 103 = .ok (.getfield 236, 3) := by decide +kernel
theorem dX10_comes_106 : decode cX10_comes 106 = .ok (.goto 10, 3) := by decide +kernel
theorem dX10_comes_109 : decode cX10_comes 109 = .ok (.aload_n 0, 1) := by decide +kernel
theorem dX10_comes_110 : decode cX10_comes 110 = .ok (.getfield 84, 3) := by decide +kernel
theorem dX10_comes_113 : decode cX10_comes 113 = .ok (.getfield 239, 3) := by decide +kernel
theorem dX10_comes_116 : decode cX10_comes 116 = .ok (.ireturn, 1) := by decide +kernel
noncomputable def f_X10_comes (a0 : Nat) (l1 : Int32) (l2 : Int32) (l3 : Int32) (l4 : Int32) (μ : Mm) : Option (Int32 × Mm) :=
  if (mm_K μ a0).1 = 11 then (gf_P 11 13 a0 μ).bind fun x1 => (f_X7_isPerson x1 l1 μ).bind fun x5 => if x5 = 0 then some ((-2 : Int32), μ) else (gf_P 11 13 a0 μ).bind fun x12 => (f_X7_isFact x12 l2 μ).bind fun x16 => if x16 = 0 then some ((-2 : Int32), μ) else (f_X10_areWays l3 μ).bind fun x23 => if x23 = 0 then some ((-2 : Int32), μ) else if l4 < 0 then some ((-2 : Int32), μ) else if l4 ≤ (2 : Int32) then (gf_P 11 3 a0 μ).bind fun x47 => (gf_I 11 15 a0 μ).bind fun x51 => (f_X4_setTurning x47 x51 μ).bind fun x54 => (gf_P 11 3 a0 x54).bind fun x58 => (f_X4_setFact x58 l2 l3 (0 : Int32) x54).bind fun x64 => (gf_P 11 3 a0 x64).bind fun x68 => (f_X4_findComing x68 l1 x64).bind fun x72 => if x72.1 = 0 then some ((-1 : Int32), x72.2) else if l4 = 0 then (gf_P 11 3 a0 x72.2).bind fun x86 => (gf_I 5 14 x86 x72.2).bind fun x89 => some (x89, x72.2) else if l4 = (1 : Int32) then (gf_P 11 3 a0 x72.2).bind fun x100 => (gf_I 5 15 x100 x72.2).bind fun x103 => some (x103, x72.2) else (gf_P 11 3 a0 x72.2).bind fun x110 => (gf_I 5 16 x110 x72.2).bind fun x113 => some (x113, x72.2) else some ((-2 : Int32), μ) else none
abbrev Rn_X10_comes (G : Gv) (Q : Option Value → Mm → Prop) (pc : Nat) (lv : List (Nat × Value)) (st : List Value) (μ : Mm) : Prop := Rn G RX10 cX10_comes 5 (some .int) "comes" (rmd 3 0 0) (Zm G 0 0 Q) 0 0 pc lv st μ
set_option maxRecDepth 100000 in
set_option maxHeartbeats 4000000 in
theorem m_X10_comes {G : Gv} (a0 : Nat) (l1 : Int32) (l2 : Int32) (l3 : Int32) (l4 : Int32) (μ : Mm) {r : (Int32 × Mm)} (hx : f_X10_comes a0 l1 l2 l3 l4 μ = some r) : Mt G yX10_comes cX10_comes 5 (some .int) 3 0 0 [.ref a0, .int l1, .int l2, .int l3, .int l4] μ (fun v μ' => v = some (.int r.1) ∧ μ' = r.2) := by
  refine Mt.of (by decide) (Nat.le_of_ble_eq_true rfl) ?_
  show Rn_X10_comes G (fun v μ' => v = some (.int r.1) ∧ μ' = r.2) 0 [(0, .ref a0), (1, .int l1), (2, .int l2), (3, .int l3), (4, .int l4)] [] μ
  obtain ⟨_, h⟩ := Sat_ifp (show Sat (f_X10_comes a0 l1 l2 l3 l4 μ) (fun x => x = r) from ⟨_, hx, rfl⟩)
  refine r_aload_n dX10_comes_0 0 rfl ?_
  obtain ⟨x1, e1, h⟩ := Sat_bind h
  refine r_getP fk_X10_63 rfl e1 dX10_comes_1 ?_
  refine r_iload_n dX10_comes_4 1 rfl ?_
  obtain ⟨x5, e5, h⟩ := Sat_bind h
  refine r_cV (t := 8) [.int l1] [] (m_X7_isPerson x1 l1 μ e5) ck_X7_isPerson lk_X10_178 in_X7_isPerson se_X7_isPerson (kd_of e5) ⟨rfl, by decide, by decide⟩ rfl rfl (Nat.le_of_ble_eq_true rfl) ⟨by decide, by decide⟩ ⟨Nat.zero_le _, Nat.zero_le _⟩ dX10_comes_5 ?_
  refine r_if_eq 29 dX10_comes_8 (by decide) (fun c8 => ?_) (fun c8 => ?_)
  · have h := Sat_pos c8 h
    refine r_bipush (v := -2) dX10_comes_29 (by decide) ?_
    exact r_ireturn rfl (by rw [← Sat_eq h]; exact ⟨rfl, rfl⟩) dX10_comes_31
  · have h := Sat_neg c8 h
    refine r_aload_n dX10_comes_11 0 rfl ?_
    obtain ⟨x12, e12, h⟩ := Sat_bind h
    refine r_getP fk_X10_63 rfl e12 dX10_comes_12 ?_
    refine r_iload_n dX10_comes_15 2 rfl ?_
    obtain ⟨x16, e16, h⟩ := Sat_bind h
    refine r_cV (t := 8) [.int l2] [] (m_X7_isFact x12 l2 μ e16) ck_X7_isFact lk_X10_188 in_X7_isFact se_X7_isFact (kd_of e16) ⟨rfl, by decide, by decide⟩ rfl rfl (Nat.le_of_ble_eq_true rfl) ⟨by decide, by decide⟩ ⟨Nat.zero_le _, Nat.zero_le _⟩ dX10_comes_16 ?_
    refine r_if_eq 29 dX10_comes_19 (by decide) (fun c19 => ?_) (fun c19 => ?_)
    · have h := Sat_pos c19 h
      refine r_bipush (v := -2) dX10_comes_29 (by decide) ?_
      exact r_ireturn rfl (by rw [← Sat_eq h]; exact ⟨rfl, rfl⟩) dX10_comes_31
    · have h := Sat_neg c19 h
      refine r_iload_n dX10_comes_22 3 rfl ?_
      obtain ⟨x23, e23, h⟩ := Sat_bind h
      refine r_cS [.int l3] [] (m_X10_areWays l3 μ e23) ck_X10_areWays lk_X10_217 st_X10_areWays rfl rfl (Nat.le_of_ble_eq_true rfl) ⟨by decide, by decide⟩ ⟨Nat.zero_le _, Nat.zero_le _⟩ dX10_comes_23 ?_
      refine r_if_ne 32 dX10_comes_26 (by decide) (fun c26 => ?_) (fun c26 => ?_)
      · have h := Sat_neg c26 h
        refine r_iload dX10_comes_32 4 rfl ?_
        refine r_if_lt 43 dX10_comes_34 (by decide) (fun c34 => ?_) (fun c34 => ?_)
        · have h := Sat_pos c34 h
          refine r_bipush (v := -2) dX10_comes_43 (by decide) ?_
          exact r_ireturn rfl (by rw [← Sat_eq h]; exact ⟨rfl, rfl⟩) dX10_comes_45
        · have h := Sat_neg c34 h
          refine r_iload dX10_comes_37 4 rfl ?_
          refine r_iconst (v := 2) dX10_comes_39 (by decide) ?_
          refine r_icmp_le 46 dX10_comes_40 (by decide) (fun c40 => ?_) (fun c40 => ?_)
          · have h := Sat_pos c40 h
            refine r_aload_n dX10_comes_46 0 rfl ?_
            obtain ⟨x47, e47, h⟩ := Sat_bind h
            refine r_getP fk_X10_84 rfl e47 dX10_comes_47 ?_
            refine r_aload_n dX10_comes_50 0 rfl ?_
            obtain ⟨x51, e51, h⟩ := Sat_bind h
            refine r_getI fk_X10_116 rfl e51 dX10_comes_51 ?_
            obtain ⟨x54, e54, h⟩ := Sat_bind h
            refine r_cV (t := 5) [.int x51] [] (m_X4_setTurning x47 x51 μ e54) ck_X4_setTurning lk_X10_220 in_X4_setTurning se_X4_setTurning (kd_of e54) ⟨rfl, by decide, by decide⟩ rfl rfl (Nat.le_of_ble_eq_true rfl) ⟨by decide, by decide⟩ ⟨Nat.zero_le _, Nat.zero_le _⟩ dX10_comes_54 ?_
            refine r_aload_n dX10_comes_57 0 rfl ?_
            obtain ⟨x58, e58, h⟩ := Sat_bind h
            refine r_getP fk_X10_84 rfl e58 dX10_comes_58 ?_
            refine r_iload_n dX10_comes_61 2 rfl ?_
            refine r_iload_n dX10_comes_62 3 rfl ?_
            refine r_iconst (v := 0) dX10_comes_63 (by decide) ?_
            obtain ⟨x64, e64, h⟩ := Sat_bind h
            refine r_cV (t := 5) [.int l2, .int l3, .int (0 : Int32)] [] (m_X4_setFact x58 l2 l3 (0 : Int32) x54 e64) ck_X4_setFact lk_X10_223 in_X4_setFact se_X4_setFact (kd_of e64) ⟨rfl, by decide, by decide⟩ rfl rfl (Nat.le_of_ble_eq_true rfl) ⟨by decide, by decide⟩ ⟨Nat.zero_le _, Nat.zero_le _⟩ dX10_comes_64 ?_
            refine r_aload_n dX10_comes_67 0 rfl ?_
            obtain ⟨x68, e68, h⟩ := Sat_bind h
            refine r_getP fk_X10_84 rfl e68 dX10_comes_68 ?_
            refine r_iload_n dX10_comes_71 1 rfl ?_
            obtain ⟨x72, e72, h⟩ := Sat_bind h
            refine r_cV (t := 5) [.int l1] [] (m_X4_findComing x68 l1 x64 e72) ck_X4_findComing lk_X10_230 in_X4_findComing se_X4_findComing (kd_of e72) ⟨rfl, by decide, by decide⟩ rfl rfl (Nat.le_of_ble_eq_true rfl) ⟨by decide, by decide⟩ ⟨Nat.zero_le _, Nat.zero_le _⟩ dX10_comes_72 ?_
            refine r_if_ne 80 dX10_comes_75 (by decide) (fun c75 => ?_) (fun c75 => ?_)
            · have h := Sat_neg c75 h
              refine r_iload dX10_comes_80 4 rfl ?_
              refine r_if_ne 93 dX10_comes_82 (by decide) (fun c82 => ?_) (fun c82 => ?_)
              · have h := Sat_neg c82 h
                refine r_iload dX10_comes_93 4 rfl ?_
                refine r_iconst (v := 1) dX10_comes_95 (by decide) ?_
                refine r_icmp_ne 109 dX10_comes_96 (by decide) (fun c96 => ?_) (fun c96 => ?_)
                · have h := Sat_neg c96 h
                  refine r_aload_n dX10_comes_109 0 rfl ?_
                  obtain ⟨x110, e110, h⟩ := Sat_bind h
                  refine r_getP fk_X10_84 rfl e110 dX10_comes_110 ?_
                  obtain ⟨x113, e113, h⟩ := Sat_bind h
                  refine r_getI fk_X10_239 rfl e113 dX10_comes_113 ?_
                  exact r_ireturn rfl (by rw [← Sat_eq h]; exact ⟨rfl, rfl⟩) dX10_comes_116
                · have h := Sat_pos c96 h
                  refine r_aload_n dX10_comes_99 0 rfl ?_
                  obtain ⟨x100, e100, h⟩ := Sat_bind h
                  refine r_getP fk_X10_84 rfl e100 dX10_comes_100 ?_
                  obtain ⟨x103, e103, h⟩ := Sat_bind h
                  refine r_getI fk_X10_236 rfl e103 dX10_comes_103 ?_
                  refine r_goto 116 dX10_comes_106 (by decide) ?_
                  exact r_ireturn rfl (by rw [← Sat_eq h]; exact ⟨rfl, rfl⟩) dX10_comes_116
              · have h := Sat_pos c82 h
                refine r_aload_n dX10_comes_85 0 rfl ?_
                obtain ⟨x86, e86, h⟩ := Sat_bind h
                refine r_getP fk_X10_84 rfl e86 dX10_comes_86 ?_
                obtain ⟨x89, e89, h⟩ := Sat_bind h
                refine r_getI fk_X10_233 rfl e89 dX10_comes_89 ?_
                exact r_ireturn rfl (by rw [← Sat_eq h]; exact ⟨rfl, rfl⟩) dX10_comes_92
            · have h := Sat_pos c75 h
              refine r_iconst (v := -1) dX10_comes_78 (by decide) ?_
              exact r_ireturn rfl (by rw [← Sat_eq h]; exact ⟨rfl, rfl⟩) dX10_comes_79
          · have h := Sat_neg c40 h
            refine r_bipush (v := -2) dX10_comes_43 (by decide) ?_
            exact r_ireturn rfl (by rw [← Sat_eq h]; exact ⟨rfl, rfl⟩) dX10_comes_45
      · have h := Sat_pos c26 h
        refine r_bipush (v := -2) dX10_comes_29 (by decide) ?_
        exact r_ireturn rfl (by rw [← Sat_eq h]; exact ⟨rfl, rfl⟩) dX10_comes_31
theorem dX10_count_0 : decode cX10_count 0 = .ok (.iload_n 1, 1) := by decide +kernel
theorem dX10_count_1 : decode cX10_count 1 = .ok (.tableswitch 89 0 4 #[35, 43, 51, 59, 81], 35) := by decide +kernel
theorem dX10_count_36 : decode cX10_count 36 = .ok (.aload_n 0, 1) := by decide +kernel
theorem dX10_count_37 : decode cX10_count 37 = .ok (.getfield 63, 3) := by decide +kernel
theorem dX10_count_40 : decode cX10_count 40 = .ok (.getfield 144, 3) := by decide +kernel
theorem dX10_count_43 : decode cX10_count 43 = .ok (.ireturn, 1) := by decide +kernel
theorem dX10_count_44 : decode cX10_count 44 = .ok (.aload_n 0, 1) := by decide +kernel
theorem dX10_count_45 : decode cX10_count 45 = .ok (.getfield 28, 3) := by decide +kernel
theorem dX10_count_48 : decode cX10_count 48 = .ok (.getfield 284, 3) := by decide +kernel
theorem dX10_count_51 : decode cX10_count 51 = .ok (.ireturn, 1) := by decide +kernel
theorem dX10_count_52 : decode cX10_count 52 = .ok (.aload_n 0, 1) := by decide +kernel
theorem dX10_count_53 : decode cX10_count 53 = .ok (.getfield 28, 3) := by decide +kernel
theorem dX10_count_56 : decode cX10_count 56 = .ok (.getfield 435, 3) := by decide +kernel
theorem dX10_count_59 : decode cX10_count 59 = .ok (.ireturn, 1) := by decide +kernel
theorem dX10_count_60 : decode cX10_count 60 = .ok (.aload_n 0, 1) := by decide +kernel
theorem dX10_count_61 : decode cX10_count 61 = .ok (.getfield 35, 3) := by decide +kernel
theorem dX10_count_64 : decode cX10_count 64 = .ok (.getfield 125, 3) := by decide +kernel
theorem dX10_count_67 : decode cX10_count 67 = .ok (.ifCond .eq 13, 3) := by decide +kernel
theorem dX10_count_70 : decode cX10_count 70 = .ok (.aload_n 0, 1) := by decide +kernel
theorem dX10_count_71 : decode cX10_count 71 = .ok (.getfield 35, 3) := by decide +kernel
theorem dX10_count_74 : decode cX10_count 74 = .ok (.getfield 422, 3) := by decide +kernel
theorem dX10_count_77 : decode cX10_count 77 = .ok (.goto 4, 3) := by decide +kernel
theorem dX10_count_80 : decode cX10_count 80 = .ok (.iconst 0, 1) := by decide +kernel
theorem dX10_count_81 : decode cX10_count 81 = .ok (.ireturn, 1) := by decide +kernel
theorem dX10_count_82 : decode cX10_count 82 = .ok (.aload_n 0, 1) := by decide +kernel
theorem dX10_count_83 : decode cX10_count 83 = .ok (.getfield 10, 3) := by decide +kernel
theorem dX10_count_86 : decode cX10_count 86 = .ok (.getfield 137, 3) := by decide +kernel
theorem dX10_count_89 : decode cX10_count 89 = .ok (.ireturn, 1) := by decide +kernel
theorem dX10_count_90 : decode cX10_count 90 = .ok (.iconst (-1), 1) := by decide +kernel
theorem dX10_count_91 : decode cX10_count 91 = .ok (.ireturn, 1) := by decide +kernel
noncomputable def f_X10_count (a0 : Nat) (l1 : Int32) (μ : Mm) : Option Int32 :=
  if (mm_K μ a0).1 = 11 then if l1 = 0 then (gf_P 11 13 a0 μ).bind fun x37 => (gf_I 8 16 x37 μ).bind fun x40 => some x40 else if l1 = 1 then (gf_P 11 4 a0 μ).bind fun x45 => (gf_I 1 8 x45 μ).bind fun x48 => some x48 else if l1 = 2 then (gf_P 11 4 a0 μ).bind fun x53 => (gf_I 1 9 x53 μ).bind fun x56 => some x56 else if l1 = 3 then (gf_P 11 6 a0 μ).bind fun x61 => (gf_I 4 1 x61 μ).bind fun x64 => if x64 = 0 then some (0 : Int32) else (gf_P 11 6 a0 μ).bind fun x71 => (gf_I 4 4 x71 μ).bind fun x74 => some x74 else if l1 = 4 then (gf_P 11 0 a0 μ).bind fun x83 => (gf_I 6 1 x83 μ).bind fun x86 => some x86 else some (-1 : Int32) else none
abbrev Rn_X10_count (G : Gv) (Q : Option Value → Mm → Prop) (pc : Nat) (lv : List (Nat × Value)) (st : List Value) (μ : Mm) : Prop := Rn G RX10 cX10_count 2 (some .int) "count" (rmd 0 0 0) (Zm G 0 0 Q) 0 0 pc lv st μ
set_option maxRecDepth 100000 in
set_option maxHeartbeats 4000000 in
theorem m_X10_count {G : Gv} (a0 : Nat) (l1 : Int32) (μ : Mm) {r : Int32} (hx : f_X10_count a0 l1 μ = some r) : Mt G yX10_count cX10_count 2 (some .int) 0 0 0 [.ref a0, .int l1] μ (fun v μ' => v = some (.int r) ∧ μ' = μ) := by
  refine Mt.of (by decide) (Nat.le_of_ble_eq_true rfl) ?_
  show Rn_X10_count G (fun v μ' => v = some (.int r) ∧ μ' = μ) 0 [(0, .ref a0), (1, .int l1)] [] μ
  obtain ⟨_, h⟩ := Sat_ifp (show Sat (f_X10_count a0 l1 μ) (fun x => x = r) from ⟨_, hx, rfl⟩)
  refine r_iload_n dX10_count_0 1 rfl ?_
  by_cases c1_0 : l1 = 0
  · have h := Sat_pos c1_0 h
    refine r_tabIn c1_0 35 36 dX10_count_1 (by decide) (by decide) (by decide) (by decide) ?_
    refine r_aload_n dX10_count_36 0 rfl ?_
    obtain ⟨x37, e37, h⟩ := Sat_bind h
    refine r_getP fk_X10_63 rfl e37 dX10_count_37 ?_
    obtain ⟨x40, e40, h⟩ := Sat_bind h
    refine r_getI fk_X10_144 rfl e40 dX10_count_40 ?_
    exact r_ireturn rfl (by rw [← Sat_eq h]; exact ⟨rfl, rfl⟩) dX10_count_43
  have h := Sat_neg c1_0 h
  by_cases c1_1 : l1 = 1
  · have h := Sat_pos c1_1 h
    refine r_tabIn c1_1 43 44 dX10_count_1 (by decide) (by decide) (by decide) (by decide) ?_
    refine r_aload_n dX10_count_44 0 rfl ?_
    obtain ⟨x45, e45, h⟩ := Sat_bind h
    refine r_getP fk_X10_28 rfl e45 dX10_count_45 ?_
    obtain ⟨x48, e48, h⟩ := Sat_bind h
    refine r_getI fk_X10_284 rfl e48 dX10_count_48 ?_
    exact r_ireturn rfl (by rw [← Sat_eq h]; exact ⟨rfl, rfl⟩) dX10_count_51
  have h := Sat_neg c1_1 h
  by_cases c1_2 : l1 = 2
  · have h := Sat_pos c1_2 h
    refine r_tabIn c1_2 51 52 dX10_count_1 (by decide) (by decide) (by decide) (by decide) ?_
    refine r_aload_n dX10_count_52 0 rfl ?_
    obtain ⟨x53, e53, h⟩ := Sat_bind h
    refine r_getP fk_X10_28 rfl e53 dX10_count_53 ?_
    obtain ⟨x56, e56, h⟩ := Sat_bind h
    refine r_getI fk_X10_435 rfl e56 dX10_count_56 ?_
    exact r_ireturn rfl (by rw [← Sat_eq h]; exact ⟨rfl, rfl⟩) dX10_count_59
  have h := Sat_neg c1_2 h
  by_cases c1_3 : l1 = 3
  · have h := Sat_pos c1_3 h
    refine r_tabIn c1_3 59 60 dX10_count_1 (by decide) (by decide) (by decide) (by decide) ?_
    refine r_aload_n dX10_count_60 0 rfl ?_
    obtain ⟨x61, e61, h⟩ := Sat_bind h
    refine r_getP fk_X10_35 rfl e61 dX10_count_61 ?_
    obtain ⟨x64, e64, h⟩ := Sat_bind h
    refine r_getI fk_X10_125 rfl e64 dX10_count_64 ?_
    refine r_if_eq 80 dX10_count_67 (by decide) (fun c67 => ?_) (fun c67 => ?_)
    · have h := Sat_pos c67 h
      refine r_iconst (v := 0) dX10_count_80 (by decide) ?_
      exact r_ireturn rfl (by rw [← Sat_eq h]; exact ⟨rfl, rfl⟩) dX10_count_81
    · have h := Sat_neg c67 h
      refine r_aload_n dX10_count_70 0 rfl ?_
      obtain ⟨x71, e71, h⟩ := Sat_bind h
      refine r_getP fk_X10_35 rfl e71 dX10_count_71 ?_
      obtain ⟨x74, e74, h⟩ := Sat_bind h
      refine r_getI fk_X10_422 rfl e74 dX10_count_74 ?_
      refine r_goto 81 dX10_count_77 (by decide) ?_
      exact r_ireturn rfl (by rw [← Sat_eq h]; exact ⟨rfl, rfl⟩) dX10_count_81
  have h := Sat_neg c1_3 h
  by_cases c1_4 : l1 = 4
  · have h := Sat_pos c1_4 h
    refine r_tabIn c1_4 81 82 dX10_count_1 (by decide) (by decide) (by decide) (by decide) ?_
    refine r_aload_n dX10_count_82 0 rfl ?_
    obtain ⟨x83, e83, h⟩ := Sat_bind h
    refine r_getP fk_X10_10 rfl e83 dX10_count_83 ?_
    obtain ⟨x86, e86, h⟩ := Sat_bind h
    refine r_getI fk_X10_137 rfl e86 dX10_count_86 ?_
    exact r_ireturn rfl (by rw [← Sat_eq h]; exact ⟨rfl, rfl⟩) dX10_count_89
  have h := Sat_neg c1_4 h
  refine r_tabOut 90 dX10_count_1 (tab_out5 c1_0 c1_1 c1_2 c1_3 c1_4) (by decide) ?_
  refine r_iconst (v := -1) dX10_count_90 (by decide) ?_
  exact r_ireturn rfl (by rw [← Sat_eq h]; exact ⟨rfl, rfl⟩) dX10_count_91
theorem dX10_dreamerOf_0 : decode cX10_dreamerOf 0 = .ok (.iconst 0, 1) := by decide +kernel
theorem dX10_dreamerOf_1 : decode cX10_dreamerOf 1 = .ok (.istore_n 2, 1) := by decide +kernel
theorem dX10_dreamerOf_2 : decode cX10_dreamerOf 2 = .ok (.iload_n 2, 1) := by decide +kernel
theorem dX10_dreamerOf_3 : decode cX10_dreamerOf 3 = .ok (.aload_n 0, 1) := by decide +kernel
theorem dX10_dreamerOf_4 : decode cX10_dreamerOf 4 = .ok (.getfield 63, 3) := by decide +kernel
theorem dX10_dreamerOf_7 : decode cX10_dreamerOf 7 = .ok (.getfield 153, 3) := by decide +kernel
theorem dX10_dreamerOf_10 : decode cX10_dreamerOf 10 = .ok (.if_icmp .ge 23, 3) := by decide +kernel
theorem dX10_dreamerOf_13 : decode cX10_dreamerOf 13 = .ok (.aload_n 0, 1) := by decide +kernel
theorem dX10_dreamerOf_14 : decode cX10_dreamerOf 14 = .ok (.getfield 116, 3) := by decide +kernel
theorem dX10_dreamerOf_17 : decode cX10_dreamerOf 17 = .ok (.iload_n 2, 1) := by decide +kernel
theorem dX10_dreamerOf_18 : decode cX10_dreamerOf 18 = .ok (.invokestatic 199, 3) := by decide +kernel
theorem dX10_dreamerOf_21 : decode cX10_dreamerOf 21 = .ok (.iload_n 1, 1) := by decide +kernel
theorem dX10_dreamerOf_22 : decode cX10_dreamerOf 22 = .ok (.if_icmp .ne 5, 3) := by decide +kernel
theorem dX10_dreamerOf_25 : decode cX10_dreamerOf 25 = .ok (.iload_n 2, 1) := by decide +kernel
theorem dX10_dreamerOf_26 : decode cX10_dreamerOf 26 = .ok (.ireturn, 1) := by decide +kernel
theorem dX10_dreamerOf_27 : decode cX10_dreamerOf 27 = .ok (.iinc 2 1, 3) := by decide +kernel
theorem dX10_dreamerOf_30 : decode cX10_dreamerOf 30 = .ok (.goto (-28), 3) := by decide +kernel
theorem dX10_dreamerOf_33 : decode cX10_dreamerOf 33 = .ok (.iconst (-1), 1) := by decide +kernel
theorem dX10_dreamerOf_34 : decode cX10_dreamerOf 34 = .ok (.ireturn, 1) := by decide +kernel
noncomputable def f_X10_dreamerOf_L2 (a0 : Nat) (l1 : Int32) (μ : Mm) (s2 : Int32) : Option ((Int32) ⊕ ((Int32) ⊕ (Unit))) :=
  (gf_P 11 13 a0 μ).bind fun x4 => (gf_I 8 9 x4 μ).bind fun x7 => if x7 ≤ s2 then some (.inr (.inr ())) else (gf_I 11 15 a0 μ).bind fun x14 => (f_X9_dreamOf x14 s2 μ).bind fun x18 => if x18 = l1 then some (.inr (.inl s2)) else (some (s2 + (1 : Int32))).bind fun v27 => some (.inl v27)
noncomputable def f_X10_dreamerOf (a0 : Nat) (l1 : Int32) (μ : Mm) : Option Int32 :=
  if (mm_K μ a0).1 = 11 then (whl (f_X10_dreamerOf_L2 a0 l1 μ) (0 : Int32)).bind (sm (fun b2 => some b2) (fun b2 => some (-1 : Int32))) else none
abbrev Rn_X10_dreamerOf (G : Gv) (Q : Option Value → Mm → Prop) (pc : Nat) (lv : List (Nat × Value)) (st : List Value) (μ : Mm) : Prop := Rn G RX10 cX10_dreamerOf 3 (some .int) "dreamerOf" (rmd 1 0 0) (Zm G 0 0 Q) 0 0 pc lv st μ
set_option maxRecDepth 100000 in
set_option maxHeartbeats 4000000 in
theorem m_X10_dreamerOf {G : Gv} (a0 : Nat) (l1 : Int32) (μ : Mm) {r : Int32} (hx : f_X10_dreamerOf a0 l1 μ = some r) : Mt G yX10_dreamerOf cX10_dreamerOf 3 (some .int) 1 0 0 [.ref a0, .int l1] μ (fun v μ' => v = some (.int r) ∧ μ' = μ) := by
  refine Mt.of (by decide) (Nat.le_of_ble_eq_true rfl) ?_
  show Rn_X10_dreamerOf G (fun v μ' => v = some (.int r) ∧ μ' = μ) 0 [(0, .ref a0), (1, .int l1)] [] μ
  obtain ⟨_, h⟩ := Sat_ifp (show Sat (f_X10_dreamerOf a0 l1 μ) (fun x => x = r) from ⟨_, hx, rfl⟩)
  refine r_iconst (v := 0) dX10_dreamerOf_0 (by decide) ?_
  refine r_istore_n (lv' := [(2, .int (0 : Int32)), (0, .ref a0), (1, .int l1)]) dX10_dreamerOf_1 rfl (by decide) rfl ?_
  refine r_sub (lv' := [(0, .ref a0), (1, .int l1), (2, .int (0 : Int32))]) [1, 2, 0] rfl ?_
  refine whl_K (s0 := ((0 : Int32) : Int32)) (RR := fun (s2 : Int32) => Rn_X10_dreamerOf G (fun v μ' => v = some (.int r) ∧ μ' = μ) 2 [(0, .ref a0), (1, .int l1), (2, .int s2)] [] μ) ?_ (Sat_bindK h)
  intro s2 K2 hI2 hX2 h
  refine r_iload_n dX10_dreamerOf_2 2 rfl ?_
  refine r_aload_n dX10_dreamerOf_3 0 rfl ?_
  obtain ⟨x4, e4, h⟩ := Sat_bind h
  refine r_getP fk_X10_63 rfl e4 dX10_dreamerOf_4 ?_
  obtain ⟨x7, e7, h⟩ := Sat_bind h
  refine r_getI fk_X10_153 rfl e7 dX10_dreamerOf_7 ?_
  refine r_icmp_ge 33 dX10_dreamerOf_10 (by decide) (fun c10 => ?_) (fun c10 => ?_)
  · have h := Sat_pos c10 h
    have h := hX2 _ (Sat_some h)
    refine r_iconst (v := -1) dX10_dreamerOf_33 (by decide) ?_
    exact r_ireturn rfl (by rw [← Sat_eq h]; exact ⟨rfl, rfl⟩) dX10_dreamerOf_34
  · have h := Sat_neg c10 h
    refine r_aload_n dX10_dreamerOf_13 0 rfl ?_
    obtain ⟨x14, e14, h⟩ := Sat_bind h
    refine r_getI fk_X10_116 rfl e14 dX10_dreamerOf_14 ?_
    refine r_iload_n dX10_dreamerOf_17 2 rfl ?_
    obtain ⟨x18, e18, h⟩ := Sat_bind h
    refine r_cS [.int x14, .int s2] [] (m_X9_dreamOf x14 s2 μ e18) ck_X9_dreamOf lk_X10_199 st_X9_dreamOf rfl rfl (Nat.le_of_ble_eq_true rfl) ⟨by decide, by decide⟩ ⟨Nat.zero_le _, Nat.zero_le _⟩ dX10_dreamerOf_18 ?_
    refine r_iload_n dX10_dreamerOf_21 1 rfl ?_
    refine r_icmp_ne 27 dX10_dreamerOf_22 (by decide) (fun c22 => ?_) (fun c22 => ?_)
    · have h := Sat_neg c22 h
      obtain ⟨v27, e27, h⟩ := Sat_bind h
      refine r_iinc (j := 2) (v := v27) (lv' := [(2, .int v27), (0, .ref a0), (1, .int l1)]) dX10_dreamerOf_27 rfl (iinc_v e27 (by decide)) (by decide) rfl ?_
      refine r_goto 2 dX10_dreamerOf_30 (by decide) ?_
      exact r_sub [1, 2, 0] rfl (hI2 _ (Sat_some h))
    · have h := Sat_pos c22 h
      have h := hX2 _ (Sat_some h)
      refine r_iload_n dX10_dreamerOf_25 2 rfl ?_
      exact r_ireturn rfl (by rw [← Sat_eq h]; exact ⟨rfl, rfl⟩) dX10_dreamerOf_26
theorem dX10_dreams_0 : decode cX10_dreams 0 = .ok (.aload_n 0, 1) := by decide +kernel
theorem dX10_dreams_1 : decode cX10_dreams 1 = .ok (.getfield 63, 3) := by decide +kernel
theorem dX10_dreams_4 : decode cX10_dreams 4 = .ok (.iload_n 1, 1) := by decide +kernel
theorem dX10_dreams_5 : decode cX10_dreams 5 = .ok (.invokevirtual 178, 3) := by decide +kernel
theorem dX10_dreams_8 : decode cX10_dreams 8 = .ok (.ifCond .ne 6, 3) := by decide +kernel
theorem dX10_dreams_11 : decode cX10_dreams 11 = .ok (.bipush (-2), 2) := by decide +kernel
theorem dX10_dreams_13 : decode cX10_dreams 13 = .ok (.ireturn, 1) := by decide +kernel
theorem dX10_dreams_14 : decode cX10_dreams 14 = .ok (.aload_n 0, 1) := by decide +kernel
theorem dX10_dreams_15 : decode cX10_dreams 15 = .ok (.getfield 116, 3) := by decide +kernel
theorem dX10_dreams_18 : decode cX10_dreams 18 = .ok (.iload_n 1, 1) := by decide +kernel
theorem dX10_dreams_19 : decode cX10_dreams 19 = .ok (.invokestatic 199, 3) := by decide +kernel
theorem dX10_dreams_22 : decode cX10_dreams 22 = .ok (.ireturn, 1) := by decide +kernel
noncomputable def f_X10_dreams (a0 : Nat) (l1 : Int32) (μ : Mm) : Option Int32 :=
  if (mm_K μ a0).1 = 11 then (gf_P 11 13 a0 μ).bind fun x1 => (f_X7_isPerson x1 l1 μ).bind fun x5 => if x5 = 0 then some (-2 : Int32) else (gf_I 11 15 a0 μ).bind fun x15 => (f_X9_dreamOf x15 l1 μ).bind fun x19 => some x19 else none
abbrev Rn_X10_dreams (G : Gv) (Q : Option Value → Mm → Prop) (pc : Nat) (lv : List (Nat × Value)) (st : List Value) (μ : Mm) : Prop := Rn G RX10 cX10_dreams 2 (some .int) "dreams" (rmd 1 0 0) (Zm G 0 0 Q) 0 0 pc lv st μ
set_option maxRecDepth 100000 in
set_option maxHeartbeats 4000000 in
theorem m_X10_dreams {G : Gv} (a0 : Nat) (l1 : Int32) (μ : Mm) {r : Int32} (hx : f_X10_dreams a0 l1 μ = some r) : Mt G yX10_dreams cX10_dreams 2 (some .int) 1 0 0 [.ref a0, .int l1] μ (fun v μ' => v = some (.int r) ∧ μ' = μ) := by
  refine Mt.of (by decide) (Nat.le_of_ble_eq_true rfl) ?_
  show Rn_X10_dreams G (fun v μ' => v = some (.int r) ∧ μ' = μ) 0 [(0, .ref a0), (1, .int l1)] [] μ
  obtain ⟨_, h⟩ := Sat_ifp (show Sat (f_X10_dreams a0 l1 μ) (fun x => x = r) from ⟨_, hx, rfl⟩)
  refine r_aload_n dX10_dreams_0 0 rfl ?_
  obtain ⟨x1, e1, h⟩ := Sat_bind h
  refine r_getP fk_X10_63 rfl e1 dX10_dreams_1 ?_
  refine r_iload_n dX10_dreams_4 1 rfl ?_
  obtain ⟨x5, e5, h⟩ := Sat_bind h
  refine r_cV (t := 8) [.int l1] [] (m_X7_isPerson x1 l1 μ e5) ck_X7_isPerson lk_X10_178 in_X7_isPerson se_X7_isPerson (kd_of e5) ⟨rfl, by decide, by decide⟩ rfl rfl (Nat.le_of_ble_eq_true rfl) ⟨by decide, by decide⟩ ⟨Nat.zero_le _, Nat.zero_le _⟩ dX10_dreams_5 ?_
  refine r_if_ne 14 dX10_dreams_8 (by decide) (fun c8 => ?_) (fun c8 => ?_)
  · have h := Sat_neg c8 h
    refine r_aload_n dX10_dreams_14 0 rfl ?_
    obtain ⟨x15, e15, h⟩ := Sat_bind h
    refine r_getI fk_X10_116 rfl e15 dX10_dreams_15 ?_
    refine r_iload_n dX10_dreams_18 1 rfl ?_
    obtain ⟨x19, e19, h⟩ := Sat_bind h
    refine r_cS [.int x15, .int l1] [] (m_X9_dreamOf x15 l1 μ e19) ck_X9_dreamOf lk_X10_199 st_X9_dreamOf rfl rfl (Nat.le_of_ble_eq_true rfl) ⟨by decide, by decide⟩ ⟨Nat.zero_le _, Nat.zero_le _⟩ dX10_dreams_19 ?_
    exact r_ireturn rfl (by rw [← Sat_eq h]; exact ⟨rfl, rfl⟩) dX10_dreams_22
  · have h := Sat_pos c8 h
    refine r_bipush (v := -2) dX10_dreams_11 (by decide) ?_
    exact r_ireturn rfl (by rw [← Sat_eq h]; exact ⟨rfl, rfl⟩) dX10_dreams_13
theorem dX10_end_0 : decode cX10_end 0 = .ok (.iload_n 1, 1) := by decide +kernel
theorem dX10_end_1 : decode cX10_end 1 = .ok (.ifCond .lt 14, 3) := by decide +kernel
theorem dX10_end_4 : decode cX10_end 4 = .ok (.iload_n 1, 1) := by decide +kernel
theorem dX10_end_5 : decode cX10_end 5 = .ok (.aload_n 0, 1) := by decide +kernel
theorem dX10_end_6 : decode cX10_end 6 = .ok (.getfield 10, 3) := by decide +kernel
theorem dX10_end_9 : decode cX10_end 9 = .ok (.getfield 137, 3) := by decide +kernel
theorem dX10_end_12 : decode cX10_end 12 = .ok (.if_icmp .le 5, 3) := by decide +kernel
theorem dX10_end_15 : decode cX10_end 15 = .ok (.iconst (-1), 1) := by decide +kernel
theorem dX10_end_16 : decode cX10_end 16 = .ok (.ireturn, 1) := by decide +kernel
theorem dX10_end_17 : decode cX10_end 17 = .ok (.aload_n 0, 1) := by decide +kernel
theorem dX10_end_18 : decode cX10_end 18 = .ok (.getfield 10, 3) := by decide +kernel
theorem dX10_end_21 : decode cX10_end 21 = .ok (.iload_n 1, 1) := by decide +kernel
theorem dX10_end_22 : decode cX10_end 22 = .ok (.putfield 137, 3) := by decide +kernel
theorem dX10_end_25 : decode cX10_end 25 = .ok (.iload_n 1, 1) := by decide +kernel
theorem dX10_end_26 : decode cX10_end 26 = .ok (.ireturn, 1) := by decide +kernel
noncomputable def f_X10_end (a0 : Nat) (l1 : Int32) (μ : Mm) : Option (Int32 × Mm) :=
  if (mm_K μ a0).1 = 11 then if l1 < 0 then some ((-1 : Int32), μ) else (gf_P 11 0 a0 μ).bind fun x6 => (gf_I 6 1 x6 μ).bind fun x9 => if l1 ≤ x9 then (gf_P 11 0 a0 μ).bind fun x18 => (pf_I 6 1 x18 l1 μ).bind fun μ22 => some (l1, μ22) else some ((-1 : Int32), μ) else none
abbrev Rn_X10_end (G : Gv) (Q : Option Value → Mm → Prop) (pc : Nat) (lv : List (Nat × Value)) (st : List Value) (μ : Mm) : Prop := Rn G RX10 cX10_end 2 (some .int) "end" (rmd 0 0 0) (Zm G 0 0 Q) 0 0 pc lv st μ
set_option maxRecDepth 100000 in
set_option maxHeartbeats 4000000 in
theorem m_X10_end {G : Gv} (a0 : Nat) (l1 : Int32) (μ : Mm) {r : (Int32 × Mm)} (hx : f_X10_end a0 l1 μ = some r) : Mt G yX10_end cX10_end 2 (some .int) 0 0 0 [.ref a0, .int l1] μ (fun v μ' => v = some (.int r.1) ∧ μ' = r.2) := by
  refine Mt.of (by decide) (Nat.le_of_ble_eq_true rfl) ?_
  show Rn_X10_end G (fun v μ' => v = some (.int r.1) ∧ μ' = r.2) 0 [(0, .ref a0), (1, .int l1)] [] μ
  obtain ⟨_, h⟩ := Sat_ifp (show Sat (f_X10_end a0 l1 μ) (fun x => x = r) from ⟨_, hx, rfl⟩)
  refine r_iload_n dX10_end_0 1 rfl ?_
  refine r_if_lt 15 dX10_end_1 (by decide) (fun c1 => ?_) (fun c1 => ?_)
  · have h := Sat_pos c1 h
    refine r_iconst (v := -1) dX10_end_15 (by decide) ?_
    exact r_ireturn rfl (by rw [← Sat_eq h]; exact ⟨rfl, rfl⟩) dX10_end_16
  · have h := Sat_neg c1 h
    refine r_iload_n dX10_end_4 1 rfl ?_
    refine r_aload_n dX10_end_5 0 rfl ?_
    obtain ⟨x6, e6, h⟩ := Sat_bind h
    refine r_getP fk_X10_10 rfl e6 dX10_end_6 ?_
    obtain ⟨x9, e9, h⟩ := Sat_bind h
    refine r_getI fk_X10_137 rfl e9 dX10_end_9 ?_
    refine r_icmp_le 17 dX10_end_12 (by decide) (fun c12 => ?_) (fun c12 => ?_)
    · have h := Sat_pos c12 h
      refine r_aload_n dX10_end_17 0 rfl ?_
      obtain ⟨x18, e18, h⟩ := Sat_bind h
      refine r_getP fk_X10_10 rfl e18 dX10_end_18 ?_
      refine r_iload_n dX10_end_21 1 rfl ?_
      obtain ⟨μ22, e22, h⟩ := Sat_bind h
      refine r_putI fk_X10_137 rfl rfl e22 dX10_end_22 ?_
      refine r_iload_n dX10_end_25 1 rfl ?_
      exact r_ireturn rfl (by rw [← Sat_eq h]; exact ⟨rfl, rfl⟩) dX10_end_26
    · have h := Sat_neg c12 h
      refine r_iconst (v := -1) dX10_end_15 (by decide) ?_
      exact r_ireturn rfl (by rw [← Sat_eq h]; exact ⟨rfl, rfl⟩) dX10_end_16
theorem dX10_fault_0 : decode cX10_fault 0 = .ok (.iload_n 1, 1) := by decide +kernel
theorem dX10_fault_1 : decode cX10_fault 1 = .ok (.ifCond .ne 11, 3) := by decide +kernel
theorem dX10_fault_4 : decode cX10_fault 4 = .ok (.aload_n 0, 1) := by decide +kernel
theorem dX10_fault_5 : decode cX10_fault 5 = .ok (.getfield 75, 3) := by decide +kernel
theorem dX10_fault_8 : decode cX10_fault 8 = .ok (.getfield 147, 3) := by decide +kernel
theorem dX10_fault_11 : decode cX10_fault 11 = .ok (.ireturn, 1) := by decide +kernel
theorem dX10_fault_12 : decode cX10_fault 12 = .ok (.iload_n 1, 1) := by decide +kernel
theorem dX10_fault_13 : decode cX10_fault 13 = .ok (.iconst 1, 1) := by decide +kernel
theorem dX10_fault_14 : decode cX10_fault 14 = .ok (.if_icmp .ne 13, 3) := by decide +kernel
theorem dX10_fault_17 : decode cX10_fault 17 = .ok (.aload_n 0, 1) := by decide +kernel
theorem dX10_fault_18 : decode cX10_fault 18 = .ok (.getfield 75, 3) := by decide +kernel
theorem dX10_fault_21 : decode cX10_fault 21 = .ok (.getfield 150, 3) := by decide +kernel
theorem dX10_fault_24 : decode cX10_fault 24 = .ok (.goto 4, 3) := by decide +kernel
theorem dX10_fault_27 : decode cX10_fault 27 = .ok (.iconst (-1), 1) := by decide +kernel
theorem dX10_fault_28 : decode cX10_fault 28 = .ok (.ireturn, 1) := by decide +kernel
noncomputable def f_X10_fault (a0 : Nat) (l1 : Int32) (μ : Mm) : Option Int32 :=
  if (mm_K μ a0).1 = 11 then if l1 = 0 then (gf_P 11 2 a0 μ).bind fun x5 => (gf_I 9 3 x5 μ).bind fun x8 => some x8 else if l1 = (1 : Int32) then (gf_P 11 2 a0 μ).bind fun x18 => (gf_I 9 4 x18 μ).bind fun x21 => some x21 else some (-1 : Int32) else none
abbrev Rn_X10_fault (G : Gv) (Q : Option Value → Mm → Prop) (pc : Nat) (lv : List (Nat × Value)) (st : List Value) (μ : Mm) : Prop := Rn G RX10 cX10_fault 2 (some .int) "fault" (rmd 0 0 0) (Zm G 0 0 Q) 0 0 pc lv st μ
set_option maxRecDepth 100000 in
set_option maxHeartbeats 4000000 in
theorem m_X10_fault {G : Gv} (a0 : Nat) (l1 : Int32) (μ : Mm) {r : Int32} (hx : f_X10_fault a0 l1 μ = some r) : Mt G yX10_fault cX10_fault 2 (some .int) 0 0 0 [.ref a0, .int l1] μ (fun v μ' => v = some (.int r) ∧ μ' = μ) := by
  refine Mt.of (by decide) (Nat.le_of_ble_eq_true rfl) ?_
  show Rn_X10_fault G (fun v μ' => v = some (.int r) ∧ μ' = μ) 0 [(0, .ref a0), (1, .int l1)] [] μ
  obtain ⟨_, h⟩ := Sat_ifp (show Sat (f_X10_fault a0 l1 μ) (fun x => x = r) from ⟨_, hx, rfl⟩)
  refine r_iload_n dX10_fault_0 1 rfl ?_
  refine r_if_ne 12 dX10_fault_1 (by decide) (fun c1 => ?_) (fun c1 => ?_)
  · have h := Sat_neg c1 h
    refine r_iload_n dX10_fault_12 1 rfl ?_
    refine r_iconst (v := 1) dX10_fault_13 (by decide) ?_
    refine r_icmp_ne 27 dX10_fault_14 (by decide) (fun c14 => ?_) (fun c14 => ?_)
    · have h := Sat_neg c14 h
      refine r_iconst (v := -1) dX10_fault_27 (by decide) ?_
      exact r_ireturn rfl (by rw [← Sat_eq h]; exact ⟨rfl, rfl⟩) dX10_fault_28
    · have h := Sat_pos c14 h
      refine r_aload_n dX10_fault_17 0 rfl ?_
      obtain ⟨x18, e18, h⟩ := Sat_bind h
      refine r_getP fk_X10_75 rfl e18 dX10_fault_18 ?_
      obtain ⟨x21, e21, h⟩ := Sat_bind h
      refine r_getI fk_X10_150 rfl e21 dX10_fault_21 ?_
      refine r_goto 28 dX10_fault_24 (by decide) ?_
      exact r_ireturn rfl (by rw [← Sat_eq h]; exact ⟨rfl, rfl⟩) dX10_fault_28
  · have h := Sat_pos c1 h
    refine r_aload_n dX10_fault_4 0 rfl ?_
    obtain ⟨x5, e5, h⟩ := Sat_bind h
    refine r_getP fk_X10_75 rfl e5 dX10_fault_5 ?_
    obtain ⟨x8, e8, h⟩ := Sat_bind h
    refine r_getI fk_X10_147 rfl e8 dX10_fault_8 ?_
    exact r_ireturn rfl (by rw [← Sat_eq h]; exact ⟨rfl, rfl⟩) dX10_fault_11
theorem dX5_append_0 : decode cX5_append 0 = .ok (.bipush 24, 2) := by decide +kernel
theorem dX5_append_2 : decode cX5_append 2 = .ok (.istore_n 2, 1) := by decide +kernel
theorem dX5_append_3 : decode cX5_append 3 = .ok (.iload_n 2, 1) := by decide +kernel
theorem dX5_append_4 : decode cX5_append 4 = .ok (.ifCond .lt 45, 3) := by decide +kernel
theorem dX5_append_7 : decode cX5_append 7 = .ok (.aload_n 0, 1) := by decide +kernel
theorem dX5_append_8 : decode cX5_append 8 = .ok (.getfield 15, 3) := by decide +kernel
theorem dX5_append_11 : decode cX5_append 11 = .ok (.sipush 900, 3) := by decide +kernel
theorem dX5_append_14 : decode cX5_append 14 = .ok (.if_icmp .ge 29, 3) := by decide +kernel
theorem dX5_append_17 : decode cX5_append 17 = .ok (.aload_n 0, 1) := by decide +kernel
theorem dX5_append_18 : decode cX5_append 18 = .ok (.getfield 11, 3) := by decide +kernel
theorem dX5_append_21 : decode cX5_append 21 = .ok (.aload_n 0, 1) := by decide +kernel
theorem dX5_append_22 : decode cX5_append 22 = .ok (.getfield 15, 3) := by decide +kernel
theorem dX5_append_25 : decode cX5_append 25 = .ok (.iload_n 1, 1) := by decide +kernel
theorem dX5_append_26 : decode cX5_append 26 = .ok (.iload_n 2, 1) := by decide +kernel
theorem dX5_append_27 : decode cX5_append 27 = .ok (.iushr, 1) := by decide +kernel
theorem dX5_append_28 : decode cX5_append 28 = .ok (.sipush 255, 3) := by decide +kernel
theorem dX5_append_31 : decode cX5_append 31 = .ok (.iand, 1) := by decide +kernel
theorem dX5_append_32 : decode cX5_append 32 = .ok (.iastore, 1) := by decide +kernel
theorem dX5_append_33 : decode cX5_append 33 = .ok (.aload_n 0, 1) := by decide +kernel
theorem dX5_append_34 : decode cX5_append 34 = .ok (.dup, 1) := by decide +kernel
theorem dX5_append_35 : decode cX5_append 35 = .ok (.getfield 15, 3) := by decide +kernel
theorem dX5_append_38 : decode cX5_append 38 = .ok (.iconst 1, 1) := by decide +kernel
theorem dX5_append_39 : decode cX5_append 39 = .ok (.iadd, 1) := by decide +kernel
theorem dX5_append_40 : decode cX5_append 40 = .ok (.putfield 15, 3) := by decide +kernel
theorem dX5_append_43 : decode cX5_append 43 = .ok (.iinc 2 (-8), 3) := by decide +kernel
theorem dX5_append_46 : decode cX5_append 46 = .ok (.goto (-43), 3) := by decide +kernel
theorem dX5_append_49 : decode cX5_append 49 = .ok (.return_, 1) := by decide +kernel
noncomputable def f_X5_append_J43 (a0 : Nat) (l1 : Int32) (l2 : Int32) (μ : Mm) : Option ((Int32 × Mm) ⊕ (Mm)) :=
  (some (l2 + (-8 : Int32))).bind fun v43 => some (.inl (v43, μ))
noncomputable def f_X5_append_L3 (a0 : Nat) (l1 : Int32) (s3 : Int32 × Mm) : Option ((Int32 × Mm) ⊕ (Mm)) :=
  if s3.1 < 0 then some (.inr s3.2) else (gf_I 6 1 a0 s3.2).bind fun x8 => if (900 : Int32) ≤ x8 then f_X5_append_J43 a0 l1 s3.1 s3.2 else (gf_P 6 0 a0 s3.2).bind fun x18 => (gf_I 6 1 a0 s3.2).bind fun x22 => (pa_I x18 x22 (((l1.toUInt32 >>> (s3.1.toUInt32 &&& Int32.toUInt32 31)).toInt32) &&& (255 : Int32)) s3.2).bind fun μ32 => (gf_I 6 1 a0 μ32).bind fun x35 => (pf_I 6 1 a0 (x35 + (1 : Int32)) μ32).bind fun μ40 => f_X5_append_J43 a0 l1 s3.1 μ40
noncomputable def f_X5_append (a0 : Nat) (l1 : Int32) (μ : Mm) : Option Mm :=
  if (mm_K μ a0).1 = 6 then (whl (f_X5_append_L3 a0 l1) ((24 : Int32), μ)).bind (fun b3 => some b3) else none
abbrev Rn_X5_append (G : Gv) (Q : Option Value → Mm → Prop) (pc : Nat) (lv : List (Nat × Value)) (st : List Value) (μ : Mm) : Prop := Rn G RX5 cX5_append 3 none "append" (rmd 0 0 0) (Zm G 0 0 Q) 0 0 pc lv st μ
set_option maxRecDepth 100000 in
set_option maxHeartbeats 4000000 in
theorem m_X5_append {G : Gv} (a0 : Nat) (l1 : Int32) (μ : Mm) {r : Mm} (hx : f_X5_append a0 l1 μ = some r) : Mt G yX5_append cX5_append 3 none 0 0 0 [.ref a0, .int l1] μ (fun v μ' => v = none ∧ μ' = r) := by
  refine Mt.of (by decide) (Nat.le_of_ble_eq_true rfl) ?_
  show Rn_X5_append G (fun v μ' => v = none ∧ μ' = r) 0 [(0, .ref a0), (1, .int l1)] [] μ
  obtain ⟨_, h⟩ := Sat_ifp (show Sat (f_X5_append a0 l1 μ) (fun x => x = r) from ⟨_, hx, rfl⟩)
  refine r_bipush (v := 24) dX5_append_0 (by decide) ?_
  refine r_istore_n (lv' := [(2, .int (24 : Int32)), (0, .ref a0), (1, .int l1)]) dX5_append_2 rfl (by decide) rfl ?_
  refine r_sub (lv' := [(0, .ref a0), (1, .int l1), (2, .int (24 : Int32))]) [1, 2, 0] rfl ?_
  refine whl_K (s0 := (((24 : Int32), μ) : Int32 × Mm)) (RR := fun (s3 : Int32 × Mm) => Rn_X5_append G (fun v μ' => v = none ∧ μ' = r) 3 [(0, .ref a0), (1, .int l1), (2, .int s3.1)] [] s3.2) ?_ (Sat_bindK h)
  intro s3 K3 hI3 hX3 h
  have J43 : ∀ (l2_43 : Int32) (μ_43 : Mm), Sat (f_X5_append_J43 a0 l1 l2_43 μ_43) K3 → Rn_X5_append G (fun v μ' => v = none ∧ μ' = r) 43 [(0, .ref a0), (1, .int l1), (2, .int l2_43)] [] μ_43 := by
    intro l2_43 μ_43 h
    obtain ⟨v43, e43, h⟩ := Sat_bind h
    refine r_iinc (j := 2) (v := v43) (lv' := [(2, .int v43), (0, .ref a0), (1, .int l1)]) dX5_append_43 rfl (iinc_v e43 (by decide)) (by decide) rfl ?_
    refine r_goto 3 dX5_append_46 (by decide) ?_
    exact r_sub [1, 2, 0] rfl (hI3 _ (Sat_some h))
  refine r_iload_n dX5_append_3 2 rfl ?_
  refine r_if_lt 49 dX5_append_4 (by decide) (fun c4 => ?_) (fun c4 => ?_)
  · have h := Sat_pos c4 h
    have h := hX3 _ (Sat_some h)
    exact r_vreturn rfl (by rw [← Sat_eq h]; exact ⟨rfl, rfl⟩) dX5_append_49
  · have h := Sat_neg c4 h
    refine r_aload_n dX5_append_7 0 rfl ?_
    obtain ⟨x8, e8, h⟩ := Sat_bind h
    refine r_getI fk_X5_15 rfl e8 dX5_append_8 ?_
    refine r_sipush (v := 900) dX5_append_11 (by decide) ?_
    refine r_icmp_ge 43 dX5_append_14 (by decide) (fun c14 => ?_) (fun c14 => ?_)
    · have h := Sat_pos c14 h
      exact r_sub [0, 1, 2] rfl (J43 s3.1 s3.2 h)
    · have h := Sat_neg c14 h
      refine r_aload_n dX5_append_17 0 rfl ?_
      obtain ⟨x18, e18, h⟩ := Sat_bind h
      refine r_getP fk_X5_11 rfl e18 dX5_append_18 ?_
      refine r_aload_n dX5_append_21 0 rfl ?_
      obtain ⟨x22, e22, h⟩ := Sat_bind h
      refine r_getI fk_X5_15 rfl e22 dX5_append_22 ?_
      refine r_iload_n dX5_append_25 1 rfl ?_
      refine r_iload_n dX5_append_26 2 rfl ?_
      refine r_iushr dX5_append_27 ?_
      refine r_sipush (v := 255) dX5_append_28 (by decide) ?_
      refine r_iand dX5_append_31 ?_
      obtain ⟨μ32, e32, h⟩ := Sat_bind h
      refine r_iastore e32 dX5_append_32 ?_
      refine r_aload_n dX5_append_33 0 rfl ?_
      refine r_dup dX5_append_34 rfl ?_
      obtain ⟨x35, e35, h⟩ := Sat_bind h
      refine r_getI fk_X5_15 rfl e35 dX5_append_35 ?_
      refine r_iconst (v := 1) dX5_append_38 (by decide) ?_
      refine r_iadd dX5_append_39 ?_
      obtain ⟨μ40, e40, h⟩ := Sat_bind h
      refine r_putI fk_X5_15 rfl rfl e40 dX5_append_40 ?_
      exact r_sub [0, 1, 2] rfl (J43 s3.1 μ40 h)
theorem dX5_hasRoom_0 : decode cX5_hasRoom 0 = .ok (.aload_n 0, 1) := by decide +kernel
theorem dX5_hasRoom_1 : decode cX5_hasRoom 1 = .ok (.getfield 15, 3) := by decide +kernel
theorem dX5_hasRoom_4 : decode cX5_hasRoom 4 = .ok (.bipush 20, 2) := by decide +kernel
theorem dX5_hasRoom_6 : decode cX5_hasRoom 6 = .ok (.iadd, 1) := by decide +kernel
theorem dX5_hasRoom_7 : decode cX5_hasRoom 7 = .ok (.sipush 900, 3) := by decide +kernel
theorem dX5_hasRoom_10 : decode cX5_hasRoom 10 = .ok (.if_icmp .gt 7, 3) := by decide +kernel
theorem dX5_hasRoom_13 : decode cX5_hasRoom 13 = .ok (.iconst 1, 1) := by decide +kernel
theorem dX5_hasRoom_14 : decode cX5_hasRoom 14 = .ok (.goto 4, 3) := by decide +kernel
theorem dX5_hasRoom_17 : decode cX5_hasRoom 17 = .ok (.iconst 0, 1) := by decide +kernel
theorem dX5_hasRoom_18 : decode cX5_hasRoom 18 = .ok (.ireturn, 1) := by decide +kernel
noncomputable def f_X5_hasRoom (a0 : Nat) (μ : Mm) : Option Int32 :=
  if (mm_K μ a0).1 = 6 then (gf_I 6 1 a0 μ).bind fun x1 => if (900 : Int32) < (x1 + (20 : Int32)) then some (0 : Int32) else some (1 : Int32) else none
abbrev Rn_X5_hasRoom (G : Gv) (Q : Option Value → Mm → Prop) (pc : Nat) (lv : List (Nat × Value)) (st : List Value) (μ : Mm) : Prop := Rn G RX5 cX5_hasRoom 1 (some .boolean) "hasRoom" (rmd 0 0 0) (Zm G 0 0 Q) 0 0 pc lv st μ
set_option maxRecDepth 100000 in
set_option maxHeartbeats 4000000 in
theorem m_X5_hasRoom {G : Gv} (a0 : Nat) (μ : Mm) {r : Int32} (hx : f_X5_hasRoom a0 μ = some r) : Mt G yX5_hasRoom cX5_hasRoom 1 (some .boolean) 0 0 0 [.ref a0] μ (fun v μ' => v = some (.int r) ∧ μ' = μ) := by
  refine Mt.of (by decide) (Nat.le_of_ble_eq_true rfl) ?_
  show Rn_X5_hasRoom G (fun v μ' => v = some (.int r) ∧ μ' = μ) 0 [(0, .ref a0)] [] μ
  obtain ⟨_, h⟩ := Sat_ifp (show Sat (f_X5_hasRoom a0 μ) (fun x => x = r) from ⟨_, hx, rfl⟩)
  refine r_aload_n dX5_hasRoom_0 0 rfl ?_
  obtain ⟨x1, e1, h⟩ := Sat_bind h
  refine r_getI fk_X5_15 rfl e1 dX5_hasRoom_1 ?_
  refine r_bipush (v := 20) dX5_hasRoom_4 (by decide) ?_
  refine r_iadd dX5_hasRoom_6 ?_
  refine r_sipush (v := 900) dX5_hasRoom_7 (by decide) ?_
  refine r_icmp_gt 17 dX5_hasRoom_10 (by decide) (fun c10 => ?_) (fun c10 => ?_)
  · have h := Sat_pos c10 h
    refine r_iconst (v := 0) dX5_hasRoom_17 (by decide) ?_
    exact r_zreturn rfl (by decide) (by rw [← Sat_eq h]; exact ⟨rfl, rfl⟩) dX5_hasRoom_18
  · have h := Sat_neg c10 h
    refine r_iconst (v := 1) dX5_hasRoom_13 (by decide) ?_
    refine r_goto 18 dX5_hasRoom_14 (by decide) ?_
    exact r_zreturn rfl (by decide) (by rw [← Sat_eq h]; exact ⟨rfl, rfl⟩) dX5_hasRoom_18
theorem dX10_feed_0 : decode cX10_feed 0 = .ok (.aload_n 0, 1) := by decide +kernel
theorem dX10_feed_1 : decode cX10_feed 1 = .ok (.getfield 10, 3) := by decide +kernel
theorem dX10_feed_4 : decode cX10_feed 4 = .ok (.invokevirtual 129, 3) := by decide +kernel
theorem dX10_feed_7 : decode cX10_feed 7 = .ok (.ifCond .ne 6, 3) := by decide +kernel
theorem dX10_feed_10 : decode cX10_feed 10 = .ok (.bipush (-3), 2) := by decide +kernel
theorem dX10_feed_12 : decode cX10_feed 12 = .ok (.ireturn, 1) := by decide +kernel
theorem dX10_feed_13 : decode cX10_feed 13 = .ok (.aload_n 0, 1) := by decide +kernel
theorem dX10_feed_14 : decode cX10_feed 14 = .ok (.getfield 10, 3) := by decide +kernel
theorem dX10_feed_17 : decode cX10_feed 17 = .ok (.iload_n 1, 1) := by decide +kernel
theorem dX10_feed_18 : decode cX10_feed 18 = .ok (.invokevirtual 133, 3) := by decide +kernel
theorem dX10_feed_21 : decode cX10_feed 21 = .ok (.aload_n 0, 1) := by decide +kernel
theorem dX10_feed_22 : decode cX10_feed 22 = .ok (.getfield 10, 3) := by decide +kernel
theorem dX10_feed_25 : decode cX10_feed 25 = .ok (.iload_n 2, 1) := by decide +kernel
theorem dX10_feed_26 : decode cX10_feed 26 = .ok (.invokevirtual 133, 3) := by decide +kernel
theorem dX10_feed_29 : decode cX10_feed 29 = .ok (.aload_n 0, 1) := by decide +kernel
theorem dX10_feed_30 : decode cX10_feed 30 = .ok (.getfield 10, 3) := by decide +kernel
theorem dX10_feed_33 : decode cX10_feed 33 = .ok (.iload_n 3, 1) := by decide +kernel
theorem dX10_feed_34 : decode cX10_feed 34 = .ok (.invokevirtual 133, 3) := by decide +kernel
theorem dX10_feed_37 : decode cX10_feed 37 = .ok (.aload_n 0, 1) := by decide +kernel
theorem dX10_feed_38 : decode cX10_feed 38 = .ok (.getfield 10, 3) := by decide +kernel
theorem dX10_feed_41 : decode cX10_feed 41 = .ok (.iload 4, 2) := by decide +kernel
theorem dX10_feed_43 : decode cX10_feed 43 = .ok (.invokevirtual 133, 3) := by decide +kernel
theorem dX10_feed_46 : decode cX10_feed 46 = .ok (.aload_n 0, 1) := by decide +kernel
theorem dX10_feed_47 : decode cX10_feed 47 = .ok (.getfield 10, 3) := by decide +kernel
theorem dX10_feed_50 : decode cX10_feed 50 = .ok (.iload 5, 2) := by decide +kernel
theorem dX10_feed_52 : decode cX10_feed 52 = .ok (.invokevirtual 133, 3) := by decide +kernel
theorem dX10_feed_55 : decode cX10_feed 55 = .ok (.aload_n 0, 1) := by decide +kernel
theorem dX10_feed_56 : decode cX10_feed 56 = .ok (.getfield 10, 3) := by decide +kernel
theorem dX10_feed_59 : decode cX10_feed 59 = .ok (.getfield 137, 3) := by decide +kernel
theorem dX10_feed_62 : decode cX10_feed 62 = .ok (.ireturn, 1) := by decide +kernel
noncomputable def f_X10_feed (a0 : Nat) (l1 : Int32) (l2 : Int32) (l3 : Int32) (l4 : Int32) (l5 : Int32) (μ : Mm) : Option (Int32 × Mm) :=
  if (mm_K μ a0).1 = 11 then (gf_P 11 0 a0 μ).bind fun x1 => (f_X5_hasRoom x1 μ).bind fun x4 => if x4 = 0 then some ((-3 : Int32), μ) else (gf_P 11 0 a0 μ).bind fun x14 => (f_X5_append x14 l1 μ).bind fun x18 => (gf_P 11 0 a0 x18).bind fun x22 => (f_X5_append x22 l2 x18).bind fun x26 => (gf_P 11 0 a0 x26).bind fun x30 => (f_X5_append x30 l3 x26).bind fun x34 => (gf_P 11 0 a0 x34).bind fun x38 => (f_X5_append x38 l4 x34).bind fun x43 => (gf_P 11 0 a0 x43).bind fun x47 => (f_X5_append x47 l5 x43).bind fun x52 => (gf_P 11 0 a0 x52).bind fun x56 => (gf_I 6 1 x56 x52).bind fun x59 => some (x59, x52) else none
abbrev Rn_X10_feed (G : Gv) (Q : Option Value → Mm → Prop) (pc : Nat) (lv : List (Nat × Value)) (st : List Value) (μ : Mm) : Prop := Rn G RX10 cX10_feed 6 (some .int) "feed" (rmd 1 0 0) (Zm G 0 0 Q) 0 0 pc lv st μ
set_option maxRecDepth 100000 in
set_option maxHeartbeats 4000000 in
theorem m_X10_feed {G : Gv} (a0 : Nat) (l1 : Int32) (l2 : Int32) (l3 : Int32) (l4 : Int32) (l5 : Int32) (μ : Mm) {r : (Int32 × Mm)} (hx : f_X10_feed a0 l1 l2 l3 l4 l5 μ = some r) : Mt G yX10_feed cX10_feed 6 (some .int) 1 0 0 [.ref a0, .int l1, .int l2, .int l3, .int l4, .int l5] μ (fun v μ' => v = some (.int r.1) ∧ μ' = r.2) := by
  refine Mt.of (by decide) (Nat.le_of_ble_eq_true rfl) ?_
  show Rn_X10_feed G (fun v μ' => v = some (.int r.1) ∧ μ' = r.2) 0 [(0, .ref a0), (1, .int l1), (2, .int l2), (3, .int l3), (4, .int l4), (5, .int l5)] [] μ
  obtain ⟨_, h⟩ := Sat_ifp (show Sat (f_X10_feed a0 l1 l2 l3 l4 l5 μ) (fun x => x = r) from ⟨_, hx, rfl⟩)
  refine r_aload_n dX10_feed_0 0 rfl ?_
  obtain ⟨x1, e1, h⟩ := Sat_bind h
  refine r_getP fk_X10_10 rfl e1 dX10_feed_1 ?_
  obtain ⟨x4, e4, h⟩ := Sat_bind h
  refine r_cV (t := 6) [] [] (m_X5_hasRoom x1 μ e4) ck_X5_hasRoom lk_X10_129 in_X5_hasRoom se_X5_hasRoom (kd_of e4) ⟨rfl, by decide, by decide⟩ rfl rfl (Nat.le_of_ble_eq_true rfl) ⟨by decide, by decide⟩ ⟨Nat.zero_le _, Nat.zero_le _⟩ dX10_feed_4 ?_
  refine r_if_ne 13 dX10_feed_7 (by decide) (fun c7 => ?_) (fun c7 => ?_)
  · have h := Sat_neg c7 h
    refine r_aload_n dX10_feed_13 0 rfl ?_
    obtain ⟨x14, e14, h⟩ := Sat_bind h
    refine r_getP fk_X10_10 rfl e14 dX10_feed_14 ?_
    refine r_iload_n dX10_feed_17 1 rfl ?_
    obtain ⟨x18, e18, h⟩ := Sat_bind h
    refine r_cV (t := 6) [.int l1] [] (m_X5_append x14 l1 μ e18) ck_X5_append lk_X10_133 in_X5_append se_X5_append (kd_of e18) ⟨rfl, by decide, by decide⟩ rfl rfl (Nat.le_of_ble_eq_true rfl) ⟨by decide, by decide⟩ ⟨Nat.zero_le _, Nat.zero_le _⟩ dX10_feed_18 ?_
    refine r_aload_n dX10_feed_21 0 rfl ?_
    obtain ⟨x22, e22, h⟩ := Sat_bind h
    refine r_getP fk_X10_10 rfl e22 dX10_feed_22 ?_
    refine r_iload_n dX10_feed_25 2 rfl ?_
    obtain ⟨x26, e26, h⟩ := Sat_bind h
    refine r_cV (t := 6) [.int l2] [] (m_X5_append x22 l2 x18 e26) ck_X5_append lk_X10_133 in_X5_append se_X5_append (kd_of e26) ⟨rfl, by decide, by decide⟩ rfl rfl (Nat.le_of_ble_eq_true rfl) ⟨by decide, by decide⟩ ⟨Nat.zero_le _, Nat.zero_le _⟩ dX10_feed_26 ?_
    refine r_aload_n dX10_feed_29 0 rfl ?_
    obtain ⟨x30, e30, h⟩ := Sat_bind h
    refine r_getP fk_X10_10 rfl e30 dX10_feed_30 ?_
    refine r_iload_n dX10_feed_33 3 rfl ?_
    obtain ⟨x34, e34, h⟩ := Sat_bind h
    refine r_cV (t := 6) [.int l3] [] (m_X5_append x30 l3 x26 e34) ck_X5_append lk_X10_133 in_X5_append se_X5_append (kd_of e34) ⟨rfl, by decide, by decide⟩ rfl rfl (Nat.le_of_ble_eq_true rfl) ⟨by decide, by decide⟩ ⟨Nat.zero_le _, Nat.zero_le _⟩ dX10_feed_34 ?_
    refine r_aload_n dX10_feed_37 0 rfl ?_
    obtain ⟨x38, e38, h⟩ := Sat_bind h
    refine r_getP fk_X10_10 rfl e38 dX10_feed_38 ?_
    refine r_iload dX10_feed_41 4 rfl ?_
    obtain ⟨x43, e43, h⟩ := Sat_bind h
    refine r_cV (t := 6) [.int l4] [] (m_X5_append x38 l4 x34 e43) ck_X5_append lk_X10_133 in_X5_append se_X5_append (kd_of e43) ⟨rfl, by decide, by decide⟩ rfl rfl (Nat.le_of_ble_eq_true rfl) ⟨by decide, by decide⟩ ⟨Nat.zero_le _, Nat.zero_le _⟩ dX10_feed_43 ?_
    refine r_aload_n dX10_feed_46 0 rfl ?_
    obtain ⟨x47, e47, h⟩ := Sat_bind h
    refine r_getP fk_X10_10 rfl e47 dX10_feed_47 ?_
    refine r_iload dX10_feed_50 5 rfl ?_
    obtain ⟨x52, e52, h⟩ := Sat_bind h
    refine r_cV (t := 6) [.int l5] [] (m_X5_append x47 l5 x43 e52) ck_X5_append lk_X10_133 in_X5_append se_X5_append (kd_of e52) ⟨rfl, by decide, by decide⟩ rfl rfl (Nat.le_of_ble_eq_true rfl) ⟨by decide, by decide⟩ ⟨Nat.zero_le _, Nat.zero_le _⟩ dX10_feed_52 ?_
    refine r_aload_n dX10_feed_55 0 rfl ?_
    obtain ⟨x56, e56, h⟩ := Sat_bind h
    refine r_getP fk_X10_10 rfl e56 dX10_feed_56 ?_
    obtain ⟨x59, e59, h⟩ := Sat_bind h
    refine r_getI fk_X10_137 rfl e59 dX10_feed_59 ?_
    exact r_ireturn rfl (by rw [← Sat_eq h]; exact ⟨rfl, rfl⟩) dX10_feed_62
  · have h := Sat_pos c7 h
    refine r_bipush (v := -3) dX10_feed_10 (by decide) ?_
    exact r_ireturn rfl (by rw [← Sat_eq h]; exact ⟨rfl, rfl⟩) dX10_feed_12
theorem dX1_greatestFitting_0 : decode cX1_greatestFitting 0 = .ok (.aload_n 0, 1) := by decide +kernel
theorem dX1_greatestFitting_1 : decode cX1_greatestFitting 1 = .ok (.getfield 122, 3) := by decide +kernel
theorem dX1_greatestFitting_4 : decode cX1_greatestFitting 4 = .ok (.ifCond .le 17, 3) := by decide +kernel
theorem dX1_greatestFitting_7 : decode cX1_greatestFitting 7 = .ok (.aload_n 0, 1) := by decide +kernel
theorem dX1_greatestFitting_8 : decode cX1_greatestFitting 8 = .ok (.getfield 28, 3) := by decide +kernel
theorem dX1_greatestFitting_11 : decode cX1_greatestFitting 11 = .ok (.aload_n 0, 1) := by decide +kernel
theorem dX1_greatestFitting_12 : decode cX1_greatestFitting 12 = .ok (.getfield 122, 3) := by decide +kernel
theorem dX1_greatestFitting_15 : decode cX1_greatestFitting 15 = .ok (.iconst 1, 1) := by decide +kernel
theorem dX1_greatestFitting_16 : decode cX1_greatestFitting 16 = .ok (.isub, 1) := by decide +kernel
theorem dX1_greatestFitting_17 : decode cX1_greatestFitting 17 = .ok (.iaload, 1) := by decide +kernel
theorem dX1_greatestFitting_18 : decode cX1_greatestFitting 18 = .ok (.goto 4, 3) := by decide +kernel
theorem dX1_greatestFitting_21 : decode cX1_greatestFitting 21 = .ok (.iconst (-1), 1) := by decide +kernel
theorem dX1_greatestFitting_22 : decode cX1_greatestFitting 22 = .ok (.ireturn, 1) := by decide +kernel
noncomputable def f_X1_greatestFitting (a0 : Nat) (μ : Mm) : Option Int32 :=
  if (mm_K μ a0).1 = 2 then (gf_I 2 8 a0 μ).bind fun x1 => if x1 ≤ 0 then some (-1 : Int32) else (gf_P 2 7 a0 μ).bind fun x8 => (gf_I 2 8 a0 μ).bind fun x12 => (ga_I x8 (x12 - (1 : Int32)) μ).bind fun x17 => some x17 else none
abbrev Rn_X1_greatestFitting (G : Gv) (Q : Option Value → Mm → Prop) (pc : Nat) (lv : List (Nat × Value)) (st : List Value) (μ : Mm) : Prop := Rn G RX1 cX1_greatestFitting 1 (some .int) "greatestFitting" (rmd 0 0 0) (Zm G 0 0 Q) 0 0 pc lv st μ
set_option maxRecDepth 100000 in
set_option maxHeartbeats 4000000 in
theorem m_X1_greatestFitting {G : Gv} (a0 : Nat) (μ : Mm) {r : Int32} (hx : f_X1_greatestFitting a0 μ = some r) : Mt G yX1_greatestFitting cX1_greatestFitting 1 (some .int) 0 0 0 [.ref a0] μ (fun v μ' => v = some (.int r) ∧ μ' = μ) := by
  refine Mt.of (by decide) (Nat.le_of_ble_eq_true rfl) ?_
  show Rn_X1_greatestFitting G (fun v μ' => v = some (.int r) ∧ μ' = μ) 0 [(0, .ref a0)] [] μ
  obtain ⟨_, h⟩ := Sat_ifp (show Sat (f_X1_greatestFitting a0 μ) (fun x => x = r) from ⟨_, hx, rfl⟩)
  refine r_aload_n dX1_greatestFitting_0 0 rfl ?_
  obtain ⟨x1, e1, h⟩ := Sat_bind h
  refine r_getI fk_X1_122 rfl e1 dX1_greatestFitting_1 ?_
  refine r_if_le 21 dX1_greatestFitting_4 (by decide) (fun c4 => ?_) (fun c4 => ?_)
  · have h := Sat_pos c4 h
    refine r_iconst (v := -1) dX1_greatestFitting_21 (by decide) ?_
    exact r_ireturn rfl (by rw [← Sat_eq h]; exact ⟨rfl, rfl⟩) dX1_greatestFitting_22
  · have h := Sat_neg c4 h
    refine r_aload_n dX1_greatestFitting_7 0 rfl ?_
    obtain ⟨x8, e8, h⟩ := Sat_bind h
    refine r_getP fk_X1_28 rfl e8 dX1_greatestFitting_8 ?_
    refine r_aload_n dX1_greatestFitting_11 0 rfl ?_
    obtain ⟨x12, e12, h⟩ := Sat_bind h
    refine r_getI fk_X1_122 rfl e12 dX1_greatestFitting_12 ?_
    refine r_iconst (v := 1) dX1_greatestFitting_15 (by decide) ?_
    refine r_isub dX1_greatestFitting_16 ?_
    obtain ⟨x17, e17, h⟩ := Sat_bind h
    refine r_iaload e17 dX1_greatestFitting_17 ?_
    refine r_goto 22 dX1_greatestFitting_18 (by decide) ?_
    exact r_ireturn rfl (by rw [← Sat_eq h]; exact ⟨rfl, rfl⟩) dX1_greatestFitting_22
theorem dX1_leastFitting_0 : decode cX1_leastFitting 0 = .ok (.aload_n 0, 1) := by decide +kernel
theorem dX1_leastFitting_1 : decode cX1_leastFitting 1 = .ok (.getfield 122, 3) := by decide +kernel
theorem dX1_leastFitting_4 : decode cX1_leastFitting 4 = .ok (.ifCond .le 12, 3) := by decide +kernel
theorem dX1_leastFitting_7 : decode cX1_leastFitting 7 = .ok (.aload_n 0, 1) := by decide +kernel
theorem dX1_leastFitting_8 : decode cX1_leastFitting 8 = .ok (.getfield 28, 3) := by decide +kernel
theorem dX1_leastFitting_11 : decode cX1_leastFitting 11 = .ok (.iconst 0, 1) := by decide +kernel
theorem dX1_leastFitting_12 : decode cX1_leastFitting 12 = .ok (.iaload, 1) := by decide +kernel
theorem dX1_leastFitting_13 : decode cX1_leastFitting 13 = .ok (.goto 4, 3) := by decide +kernel
theorem dX1_leastFitting_16 : decode cX1_leastFitting 16 = .ok (.iconst (-1), 1) := by decide +kernel
theorem dX1_leastFitting_17 : decode cX1_leastFitting 17 = .ok (.ireturn, 1) := by decide +kernel
noncomputable def f_X1_leastFitting (a0 : Nat) (μ : Mm) : Option Int32 :=
  if (mm_K μ a0).1 = 2 then (gf_I 2 8 a0 μ).bind fun x1 => if x1 ≤ 0 then some (-1 : Int32) else (gf_P 2 7 a0 μ).bind fun x8 => (ga_I x8 (0 : Int32) μ).bind fun x12 => some x12 else none
abbrev Rn_X1_leastFitting (G : Gv) (Q : Option Value → Mm → Prop) (pc : Nat) (lv : List (Nat × Value)) (st : List Value) (μ : Mm) : Prop := Rn G RX1 cX1_leastFitting 1 (some .int) "leastFitting" (rmd 0 0 0) (Zm G 0 0 Q) 0 0 pc lv st μ
set_option maxRecDepth 100000 in
set_option maxHeartbeats 4000000 in
theorem m_X1_leastFitting {G : Gv} (a0 : Nat) (μ : Mm) {r : Int32} (hx : f_X1_leastFitting a0 μ = some r) : Mt G yX1_leastFitting cX1_leastFitting 1 (some .int) 0 0 0 [.ref a0] μ (fun v μ' => v = some (.int r) ∧ μ' = μ) := by
  refine Mt.of (by decide) (Nat.le_of_ble_eq_true rfl) ?_
  show Rn_X1_leastFitting G (fun v μ' => v = some (.int r) ∧ μ' = μ) 0 [(0, .ref a0)] [] μ
  obtain ⟨_, h⟩ := Sat_ifp (show Sat (f_X1_leastFitting a0 μ) (fun x => x = r) from ⟨_, hx, rfl⟩)
  refine r_aload_n dX1_leastFitting_0 0 rfl ?_
  obtain ⟨x1, e1, h⟩ := Sat_bind h
  refine r_getI fk_X1_122 rfl e1 dX1_leastFitting_1 ?_
  refine r_if_le 16 dX1_leastFitting_4 (by decide) (fun c4 => ?_) (fun c4 => ?_)
  · have h := Sat_pos c4 h
    refine r_iconst (v := -1) dX1_leastFitting_16 (by decide) ?_
    exact r_ireturn rfl (by rw [← Sat_eq h]; exact ⟨rfl, rfl⟩) dX1_leastFitting_17
  · have h := Sat_neg c4 h
    refine r_aload_n dX1_leastFitting_7 0 rfl ?_
    obtain ⟨x8, e8, h⟩ := Sat_bind h
    refine r_getP fk_X1_28 rfl e8 dX1_leastFitting_8 ?_
    refine r_iconst (v := 0) dX1_leastFitting_11 (by decide) ?_
    obtain ⟨x12, e12, h⟩ := Sat_bind h
    refine r_iaload e12 dX1_leastFitting_12 ?_
    refine r_goto 17 dX1_leastFitting_13 (by decide) ?_
    exact r_ireturn rfl (by rw [← Sat_eq h]; exact ⟨rfl, rfl⟩) dX1_leastFitting_17
theorem dX3_drawn_0 : decode cX3_drawn 0 = .ok (.aload_n 0, 1) := by decide +kernel
theorem dX3_drawn_1 : decode cX3_drawn 1 = .ok (.ldc 94, 2) := by decide +kernel
theorem dX3_drawn_3 : decode cX3_drawn 3 = .ok (.aload_n 0, 1) := by decide +kernel
theorem dX3_drawn_4 : decode cX3_drawn 4 = .ok (.getfield 19, 3) := by decide +kernel
theorem dX3_drawn_7 : decode cX3_drawn 7 = .ok (.imul, 1) := by decide +kernel
theorem dX3_drawn_8 : decode cX3_drawn 8 = .ok (.sipush 12345, 3) := by decide +kernel
theorem dX3_drawn_11 : decode cX3_drawn 11 = .ok (.iadd, 1) := by decide +kernel
theorem dX3_drawn_12 : decode cX3_drawn 12 = .ok (.ldc 95, 2) := by decide +kernel
theorem dX3_drawn_14 : decode cX3_drawn 14 = .ok (.iand, 1) := by decide +kernel
theorem dX3_drawn_15 : decode cX3_drawn 15 = .ok (.putfield 19, 3) := by decide +kernel
theorem dX3_drawn_18 : decode cX3_drawn 18 = .ok (.iload_n 1, 1) := by decide +kernel
theorem dX3_drawn_19 : decode cX3_drawn 19 = .ok (.ifCond .le 15, 3) := by decide +kernel
theorem dX3_drawn_22 : decode cX3_drawn 22 = .ok (.aload_n 0, 1) := by decide +kernel
theorem dX3_drawn_23 : decode cX3_drawn 23 = .ok (.getfield 19, 3) := by decide +kernel
theorem dX3_drawn_26 : decode cX3_drawn 26 = .ok (.bipush 16, 2) := by decide +kernel
theorem dX3_drawn_28 : decode cX3_drawn 28 = .ok (.iushr, 1) := by decide +kernel
theorem dX3_drawn_29 : decode cX3_drawn 29 = .ok (.iload_n 1, 1) := by decide +kernel
theorem dX3_drawn_30 : decode cX3_drawn 30 = .ok (.irem, 1) := by decide +kernel
theorem dX3_drawn_31 : decode cX3_drawn 31 = .ok (.goto 4, 3) := by decide +kernel
theorem dX3_drawn_34 : decode cX3_drawn 34 = .ok (.iconst 0, 1) := by decide +kernel
theorem dX3_drawn_35 : decode cX3_drawn 35 = .ok (.ireturn, 1) := by decide +kernel
noncomputable def f_X3_drawn (a0 : Nat) (l1 : Int32) (μ : Mm) : Option (Int32 × Mm) :=
  if (mm_K μ a0).1 = 4 then (gf_I 4 2 a0 μ).bind fun x4 => (pf_I 4 2 a0 ((((1103515245 : Int32) * x4) + (12345 : Int32)) &&& (2147483647 : Int32)) μ).bind fun μ15 => if l1 ≤ 0 then some ((0 : Int32), μ15) else (gf_I 4 2 a0 μ15).bind fun x23 => if l1 = 0 then none else some (((x23.toUInt32 >>> ((16 : Int32).toUInt32 &&& Int32.toUInt32 31)).toInt32) - ((x23.toUInt32 >>> ((16 : Int32).toUInt32 &&& Int32.toUInt32 31)).toInt32) / l1 * l1, μ15) else none
abbrev Rn_X3_drawn (G : Gv) (Q : Option Value → Mm → Prop) (pc : Nat) (lv : List (Nat × Value)) (st : List Value) (μ : Mm) : Prop := Rn G RX3 cX3_drawn 2 (some .int) "drawn" (rmd 0 0 0) (Zm G 0 0 Q) 0 0 pc lv st μ
set_option maxRecDepth 100000 in
set_option maxHeartbeats 4000000 in
theorem m_X3_drawn {G : Gv} (a0 : Nat) (l1 : Int32) (μ : Mm) {r : (Int32 × Mm)} (hx : f_X3_drawn a0 l1 μ = some r) : Mt G yX3_drawn cX3_drawn 2 (some .int) 0 0 0 [.ref a0, .int l1] μ (fun v μ' => v = some (.int r.1) ∧ μ' = r.2) := by
  refine Mt.of (by decide) (Nat.le_of_ble_eq_true rfl) ?_
  show Rn_X3_drawn G (fun v μ' => v = some (.int r.1) ∧ μ' = r.2) 0 [(0, .ref a0), (1, .int l1)] [] μ
  obtain ⟨_, h⟩ := Sat_ifp (show Sat (f_X3_drawn a0 l1 μ) (fun x => x = r) from ⟨_, hx, rfl⟩)
  refine r_aload_n dX3_drawn_0 0 rfl ?_
  refine r_ldc (v := 1103515245) dX3_drawn_1 kc_X3_94 ?_
  refine r_aload_n dX3_drawn_3 0 rfl ?_
  obtain ⟨x4, e4, h⟩ := Sat_bind h
  refine r_getI fk_X3_19 rfl e4 dX3_drawn_4 ?_
  refine r_imul dX3_drawn_7 ?_
  refine r_sipush (v := 12345) dX3_drawn_8 (by decide) ?_
  refine r_iadd dX3_drawn_11 ?_
  refine r_ldc (v := 2147483647) dX3_drawn_12 kc_X3_95 ?_
  refine r_iand dX3_drawn_14 ?_
  obtain ⟨μ15, e15, h⟩ := Sat_bind h
  refine r_putI fk_X3_19 rfl rfl e15 dX3_drawn_15 ?_
  refine r_iload_n dX3_drawn_18 1 rfl ?_
  refine r_if_le 34 dX3_drawn_19 (by decide) (fun c19 => ?_) (fun c19 => ?_)
  · have h := Sat_pos c19 h
    refine r_iconst (v := 0) dX3_drawn_34 (by decide) ?_
    exact r_ireturn rfl (by rw [← Sat_eq h]; exact ⟨rfl, rfl⟩) dX3_drawn_35
  · have h := Sat_neg c19 h
    refine r_aload_n dX3_drawn_22 0 rfl ?_
    obtain ⟨x23, e23, h⟩ := Sat_bind h
    refine r_getI fk_X3_19 rfl e23 dX3_drawn_23 ?_
    refine r_bipush (v := 16) dX3_drawn_26 (by decide) ?_
    refine r_iushr dX3_drawn_28 ?_
    refine r_iload_n dX3_drawn_29 1 rfl ?_
    obtain ⟨z30, h⟩ := Sat_ifn h
    refine r_irem dX3_drawn_30 z30 ?_
    refine r_goto 35 dX3_drawn_31 (by decide) ?_
    exact r_ireturn rfl (by rw [← Sat_eq h]; exact ⟨rfl, rfl⟩) dX3_drawn_35
theorem dX9_rowOf_0 : decode cX9_rowOf 0 = .ok (.iconst (-1), 1) := by decide +kernel
theorem dX9_rowOf_1 : decode cX9_rowOf 1 = .ok (.istore_n 2, 1) := by decide +kernel
theorem dX9_rowOf_2 : decode cX9_rowOf 2 = .ok (.iconst 0, 1) := by decide +kernel
theorem dX9_rowOf_3 : decode cX9_rowOf 3 = .ok (.istore_n 3, 1) := by decide +kernel
theorem dX9_rowOf_4 : decode cX9_rowOf 4 = .ok (.iload_n 1, 1) := by decide +kernel
theorem dX9_rowOf_5 : decode cX9_rowOf 5 = .ok (.istore 4, 2) := by decide +kernel
theorem dX9_rowOf_7 : decode cX9_rowOf 7 = .ok (.iconst 0, 1) := by decide +kernel
theorem dX9_rowOf_8 : decode cX9_rowOf 8 = .ok (.istore 5, 2) := by decide +kernel
theorem dX9_rowOf_10 : decode cX9_rowOf 10 = .ok (.iload 5, 2) := by decide +kernel
theorem dX9_rowOf_12 : decode cX9_rowOf 12 = .ok (.aload_n 0, 1) := by decide +kernel
theorem dX9_rowOf_13 : decode cX9_rowOf 13 = .ok (.getfield 21, 3) := by decide +kernel
theorem dX9_rowOf_16 : decode cX9_rowOf 16 = .ok (.if_icmp .ge 104, 3) := by decide +kernel
theorem dX9_rowOf_19 : decode cX9_rowOf 19 = .ok (.aload_n 0, 1) := by decide +kernel
theorem dX9_rowOf_20 : decode cX9_rowOf 20 = .ok (.getfield 15, 3) := by decide +kernel
theorem dX9_rowOf_23 : decode cX9_rowOf 23 = .ok (.aload_n 0, 1) := by decide +kernel
theorem dX9_rowOf_24 : decode cX9_rowOf 24 = .ok (.getfield 9, 3) := by decide +kernel
theorem dX9_rowOf_27 : decode cX9_rowOf 27 = .ok (.iload 5, 2) := by decide +kernel
theorem dX9_rowOf_29 : decode cX9_rowOf 29 = .ok (.iaload, 1) := by decide +kernel
theorem dX9_rowOf_30 : decode cX9_rowOf 30 = .ok (.iaload, 1) := by decide +kernel
theorem dX9_rowOf_31 : decode cX9_rowOf 31 = .ok (.iload_n 3, 1) := by decide +kernel
theorem dX9_rowOf_32 : decode cX9_rowOf 32 = .ok (.iconst (-1), 1) := by decide +kernel
theorem dX9_rowOf_33 : decode cX9_rowOf 33 = .ok (.ixor, 1) := by decide +kernel
theorem dX9_rowOf_34 : decode cX9_rowOf 34 = .ok (.iand, 1) := by decide +kernel
theorem dX9_rowOf_35 : decode cX9_rowOf 35 = .ok (.istore 6, 2) := by decide +kernel
theorem dX9_rowOf_37 : decode cX9_rowOf 37 = .ok (.iconst 0, 1) := by decide +kernel
theorem dX9_rowOf_38 : decode cX9_rowOf 38 = .ok (.istore 7, 2) := by decide +kernel
theorem dX9_rowOf_40 : decode cX9_rowOf 40 = .ok (.iload 7, 2) := by decide +kernel
theorem dX9_rowOf_42 : decode cX9_rowOf 42 = .ok (.bipush 8, 2) := by decide +kernel
theorem dX9_rowOf_44 : decode cX9_rowOf 44 = .ok (.if_icmp .ge 70, 3) := by decide +kernel
theorem dX9_rowOf_47 : decode cX9_rowOf 47 = .ok (.iload 6, 2) := by decide +kernel
theorem dX9_rowOf_49 : decode cX9_rowOf 49 = .ok (.iload 7, 2) := by decide +kernel
theorem dX9_rowOf_51 : decode cX9_rowOf 51 = .ok (.ishr, 1) := by decide +kernel
theorem dX9_rowOf_52 : decode cX9_rowOf 52 = .ok (.iconst 1, 1) := by decide +kernel
theorem dX9_rowOf_53 : decode cX9_rowOf 53 = .ok (.iand, 1) := by decide +kernel
theorem dX9_rowOf_54 : decode cX9_rowOf 54 = .ok (.ifCond .eq 54, 3) := by decide +kernel
theorem dX9_rowOf_57 : decode cX9_rowOf 57 = .ok (.aload_n 0, 1) := by decide +kernel
theorem dX9_rowOf_58 : decode cX9_rowOf 58 = .ok (.getfield 18, 3) := by decide +kernel
theorem dX9_rowOf_61 : decode cX9_rowOf 61 = .ok (.iload_n 3, 1) := by decide +kernel
theorem dX9_rowOf_62 : decode cX9_rowOf 62 = .ok (.iconst 1, 1) := by decide +kernel
theorem dX9_rowOf_63 : decode cX9_rowOf 63 = .ok (.iload 7, 2) := by decide +kernel
theorem dX9_rowOf_65 : decode cX9_rowOf 65 = .ok (.ishl, 1) := by decide +kernel
theorem dX9_rowOf_66 : decode cX9_rowOf 66 = .ok (.ior, 1) := by decide +kernel
theorem dX9_rowOf_67 : decode cX9_rowOf 67 = .ok (.iaload, 1) := by decide +kernel
theorem dX9_rowOf_68 : decode cX9_rowOf 68 = .ok (.istore 8, 2) := by decide +kernel
theorem dX9_rowOf_70 : decode cX9_rowOf 70 = .ok (.iload 4, 2) := by decide +kernel
theorem dX9_rowOf_72 : decode cX9_rowOf 72 = .ok (.iload 8, 2) := by decide +kernel
theorem dX9_rowOf_74 : decode cX9_rowOf 74 = .ok (.if_icmp .ge 27, 3) := by decide +kernel
theorem dX9_rowOf_77 : decode cX9_rowOf 77 = .ok (.iload_n 2, 1) := by decide +kernel
theorem dX9_rowOf_78 : decode cX9_rowOf 78 = .ok (.aload_n 0, 1) := by decide +kernel
theorem dX9_rowOf_79 : decode cX9_rowOf 79 = .ok (.getfield 9, 3) := by decide +kernel
theorem dX9_rowOf_82 : decode cX9_rowOf 82 = .ok (.iload 5, 2) := by decide +kernel
theorem dX9_rowOf_84 : decode cX9_rowOf 84 = .ok (.iaload, 1) := by decide +kernel
theorem dX9_rowOf_85 : decode cX9_rowOf 85 = .ok (.iload 7, 2) := by decide +kernel
theorem dX9_rowOf_87 : decode cX9_rowOf 87 = .ok (.invokestatic 52, 3) := by decide +kernel
theorem dX9_rowOf_90 : decode cX9_rowOf 90 = .ok (.istore_n 2, 1) := by decide +kernel
theorem dX9_rowOf_91 : decode cX9_rowOf 91 = .ok (.iload_n 3, 1) := by decide +kernel
theorem dX9_rowOf_92 : decode cX9_rowOf 92 = .ok (.iconst 1, 1) := by decide +kernel
theorem dX9_rowOf_93 : decode cX9_rowOf 93 = .ok (.iload 7, 2) := by decide +kernel
theorem dX9_rowOf_95 : decode cX9_rowOf 95 = .ok (.ishl, 1) := by decide +kernel
theorem dX9_rowOf_96 : decode cX9_rowOf 96 = .ok (.ior, 1) := by decide +kernel
theorem dX9_rowOf_97 : decode cX9_rowOf 97 = .ok (.istore_n 3, 1) := by decide +kernel
theorem dX9_rowOf_98 : decode cX9_rowOf 98 = .ok (.goto 16, 3) := by decide +kernel
theorem dX9_rowOf_101 : decode cX9_rowOf 101 = .ok (.iload 4, 2) := by decide +kernel
theorem dX9_rowOf_103 : decode cX9_rowOf 103 = .ok (.iload 8, 2) := by decide +kernel
theorem dX9_rowOf_105 : decode cX9_rowOf 105 = .ok (.isub, 1) := by decide +kernel
theorem dX9_rowOf_106 : decode cX9_rowOf 106 = .ok (.istore 4, 2) := by decide +kernel
theorem dX9_rowOf_108 : decode cX9_rowOf 108 = .ok (.iinc 7 1, 3) := by decide +kernel
theorem dX9_rowOf_111 : decode cX9_rowOf 111 = .ok (.goto (-71), 3) := by decide +kernel
theorem dX9_rowOf_114 : decode cX9_rowOf 114 = .ok (.iinc 5 1, 3) := by decide +kernel
theorem dX9_rowOf_117 : decode cX9_rowOf 117 = .ok (.goto (-107), 3) := by decide +kernel
theorem dX9_rowOf_120 : decode cX9_rowOf 120 = .ok (.iload_n 2, 1) := by decide +kernel
theorem dX9_rowOf_121 : decode cX9_rowOf 121 = .ok (.ireturn, 1) := by decide +kernel
noncomputable def f_X9_rowOf_J114 (a0 : Nat) (l2 : Int32) (l3 : Int32) (l4 : Int32) (l5 : Int32) (μ : Mm) : Option ((Int32 × Int32 × Int32 × Int32) ⊕ (Int32)) :=
  (some (l5 + (1 : Int32))).bind fun v114 => some (.inl (l2, l3, l4, v114))
noncomputable def f_X9_rowOf_J108 (a0 : Nat) (l2 : Int32) (l3 : Int32) (l4 : Int32) (l5 : Int32) (l6 : Int32) (l7 : Int32) (μ : Mm) : Option ((Int32 × Int32) ⊕ ((Int32 × Int32) ⊕ (Int32))) :=
  (some (l7 + (1 : Int32))).bind fun v108 => some (.inl (l4, v108))
noncomputable def f_X9_rowOf_J77 (a0 : Nat) (l2 : Int32) (l3 : Int32) (l4 : Int32) (l5 : Int32) (l7 : Int32) (μ : Mm) : Option ((Int32 × Int32 × Int32 × Int32) ⊕ (Int32)) :=
  (gf_P 10 0 a0 μ).bind fun x79 => (ga_I x79 l5 μ).bind fun x84 => (f_X9_withDream l2 x84 l7 μ).bind fun x87 => (some (l3 ||| ((1 : Int32) <<< (l7 &&& 31)))).bind fun v97 => f_X9_rowOf_J114 a0 x87 v97 l4 l5 μ
noncomputable def f_X9_rowOf_L40 (a0 : Nat) (l2 : Int32) (l3 : Int32) (l5 : Int32) (l6 : Int32) (μ : Mm) (s40 : Int32 × Int32) : Option ((Int32 × Int32) ⊕ ((Int32 × Int32) ⊕ (Int32))) :=
  if (8 : Int32) ≤ s40.2 then some (.inr (.inr s40.1)) else if ((l6 >>> (s40.2 &&& 31)) &&& (1 : Int32)) = 0 then f_X9_rowOf_J108 a0 l2 l3 s40.1 l5 l6 s40.2 μ else (gf_P 10 2 a0 μ).bind fun x58 => (ga_I x58 (l3 ||| ((1 : Int32) <<< (s40.2 &&& 31))) μ).bind fun x67 => if x67 ≤ s40.1 then (some (s40.1 - x67)).bind fun v106 => f_X9_rowOf_J108 a0 l2 l3 v106 l5 l6 s40.2 μ else some (.inr (.inl (s40.1, s40.2)))
noncomputable def f_X9_rowOf_L10 (a0 : Nat) (μ : Mm) (s10 : Int32 × Int32 × Int32 × Int32) : Option ((Int32 × Int32 × Int32 × Int32) ⊕ (Int32)) :=
  (gf_I 10 3 a0 μ).bind fun x13 => if x13 ≤ s10.2.2.2 then some (.inr s10.1) else (gf_P 10 1 a0 μ).bind fun x20 => (gf_P 10 0 a0 μ).bind fun x24 => (ga_I x24 s10.2.2.2 μ).bind fun x29 => (ga_I x20 x29 μ).bind fun x30 => (some (x30 &&& (s10.2.1 ^^^ (-1 : Int32)))).bind fun v35 => (whl (f_X9_rowOf_L40 a0 s10.1 s10.2.1 s10.2.2.2 v35 μ) (s10.2.2.1, (0 : Int32))).bind (sm (fun b40 => f_X9_rowOf_J77 a0 s10.1 s10.2.1 b40.1 s10.2.2.2 b40.2 μ) (fun b40 => f_X9_rowOf_J114 a0 s10.1 s10.2.1 b40 s10.2.2.2 μ))
noncomputable def f_X9_rowOf (a0 : Nat) (l1 : Int32) (μ : Mm) : Option Int32 :=
  if (mm_K μ a0).1 = 10 then (whl (f_X9_rowOf_L10 a0 μ) ((-1 : Int32), (0 : Int32), l1, (0 : Int32))).bind (fun b10 => some b10) else none
abbrev Rn_X9_rowOf (G : Gv) (Q : Option Value → Mm → Prop) (pc : Nat) (lv : List (Nat × Value)) (st : List Value) (μ : Mm) : Prop := Rn G RX9 cX9_rowOf 9 (some .int) "rowOf" (rmd 1 0 0) (Zm G 0 0 Q) 0 0 pc lv st μ
set_option maxRecDepth 100000 in
set_option maxHeartbeats 4000000 in
theorem m_X9_rowOf {G : Gv} (a0 : Nat) (l1 : Int32) (μ : Mm) {r : Int32} (hx : f_X9_rowOf a0 l1 μ = some r) : Mt G yX9_rowOf cX9_rowOf 9 (some .int) 1 0 0 [.ref a0, .int l1] μ (fun v μ' => v = some (.int r) ∧ μ' = μ) := by
  refine Mt.of (by decide) (Nat.le_of_ble_eq_true rfl) ?_
  show Rn_X9_rowOf G (fun v μ' => v = some (.int r) ∧ μ' = μ) 0 [(0, .ref a0), (1, .int l1)] [] μ
  obtain ⟨_, h⟩ := Sat_ifp (show Sat (f_X9_rowOf a0 l1 μ) (fun x => x = r) from ⟨_, hx, rfl⟩)
  refine r_iconst (v := -1) dX9_rowOf_0 (by decide) ?_
  refine r_istore_n (lv' := [(2, .int (-1 : Int32)), (0, .ref a0), (1, .int l1)]) dX9_rowOf_1 rfl (by decide) rfl ?_
  refine r_iconst (v := 0) dX9_rowOf_2 (by decide) ?_
  refine r_istore_n (lv' := [(3, .int (0 : Int32)), (2, .int (-1 : Int32)), (0, .ref a0), (1, .int l1)]) dX9_rowOf_3 rfl (by decide) rfl ?_
  refine r_iload_n dX9_rowOf_4 3 rfl ?_
  refine r_istore (lv' := [(4, .int l1), (3, .int (0 : Int32)), (2, .int (-1 : Int32)), (0, .ref a0), (1, .int l1)]) dX9_rowOf_5 (by decide) rfl ?_
  refine r_iconst (v := 0) dX9_rowOf_7 (by decide) ?_
  refine r_istore (lv' := [(5, .int (0 : Int32)), (4, .int l1), (3, .int (0 : Int32)), (2, .int (-1 : Int32)), (0, .ref a0), (1, .int l1)]) dX9_rowOf_8 (by decide) rfl ?_
  refine r_sub (lv' := [(0, .ref a0), (2, .int (-1 : Int32)), (3, .int (0 : Int32)), (4, .int l1), (5, .int (0 : Int32))]) [4, 3, 2, 1, 0] rfl ?_
  refine whl_K (s0 := (((-1 : Int32), (0 : Int32), l1, (0 : Int32)) : Int32 × Int32 × Int32 × Int32)) (RR := fun (s10 : Int32 × Int32 × Int32 × Int32) => Rn_X9_rowOf G (fun v μ' => v = some (.int r) ∧ μ' = μ) 10 [(0, .ref a0), (2, .int s10.1), (3, .int s10.2.1), (4, .int s10.2.2.1), (5, .int s10.2.2.2)] [] μ) ?_ (Sat_bindK h)
  intro s10 K10 hI10 hX10 h
  have J114 : ∀ (l2_114 : Int32) (l3_114 : Int32) (l4_114 : Int32) (l5_114 : Int32), Sat (f_X9_rowOf_J114 a0 l2_114 l3_114 l4_114 l5_114 μ) K10 → Rn_X9_rowOf G (fun v μ' => v = some (.int r) ∧ μ' = μ) 114 [(0, .ref a0), (2, .int l2_114), (3, .int l3_114), (4, .int l4_114), (5, .int l5_114)] [] μ := by
    intro l2_114 l3_114 l4_114 l5_114 h
    obtain ⟨v114, e114, h⟩ := Sat_bind h
    refine r_iinc (j := 4) (v := v114) (lv' := [(5, .int v114), (0, .ref a0), (2, .int l2_114), (3, .int l3_114), (4, .int l4_114)]) dX9_rowOf_114 rfl (iinc_v e114 (by decide)) (by decide) rfl ?_
    refine r_goto 10 dX9_rowOf_117 (by decide) ?_
    exact r_sub [1, 2, 3, 4, 0] rfl (hI10 _ (Sat_some h))
  have J77 : ∀ (l2_77 : Int32) (l3_77 : Int32) (l4_77 : Int32) (l5_77 : Int32) (l7_77 : Int32), Sat (f_X9_rowOf_J77 a0 l2_77 l3_77 l4_77 l5_77 l7_77 μ) K10 → Rn_X9_rowOf G (fun v μ' => v = some (.int r) ∧ μ' = μ) 77 [(0, .ref a0), (2, .int l2_77), (3, .int l3_77), (4, .int l4_77), (5, .int l5_77), (7, .int l7_77)] [] μ := by
    intro l2_77 l3_77 l4_77 l5_77 l7_77 h
    refine r_iload_n dX9_rowOf_77 1 rfl ?_
    refine r_aload_n dX9_rowOf_78 0 rfl ?_
    obtain ⟨x79, e79, h⟩ := Sat_bind h
    refine r_getP fk_X9_9 rfl e79 dX9_rowOf_79 ?_
    refine r_iload dX9_rowOf_82 4 rfl ?_
    obtain ⟨x84, e84, h⟩ := Sat_bind h
    refine r_iaload e84 dX9_rowOf_84 ?_
    refine r_iload dX9_rowOf_85 5 rfl ?_
    obtain ⟨x87, e87, h⟩ := Sat_bind h
    refine r_cS [.int l2_77, .int x84, .int l7_77] [] (m_X9_withDream l2_77 x84 l7_77 μ e87) ck_X9_withDream lk_X9_52 st_X9_withDream rfl rfl (Nat.le_of_ble_eq_true rfl) ⟨by decide, by decide⟩ ⟨Nat.zero_le _, Nat.zero_le _⟩ dX9_rowOf_87 ?_
    refine r_istore_n (lv' := [(2, .int x87), (0, .ref a0), (3, .int l3_77), (4, .int l4_77), (5, .int l5_77), (7, .int l7_77)]) dX9_rowOf_90 rfl (by decide) rfl ?_
    refine r_iload_n dX9_rowOf_91 2 rfl ?_
    refine r_iconst (v := 1) dX9_rowOf_92 (by decide) ?_
    refine r_iload dX9_rowOf_93 5 rfl ?_
    refine r_ishl dX9_rowOf_95 ?_
    refine r_ior dX9_rowOf_96 ?_
    obtain ⟨v97, e97, h⟩ := Sat_bind h
    refine r_topi (Option.some.inj e97) ?_
    refine r_istore_n (lv' := [(3, .int v97), (2, .int x87), (0, .ref a0), (4, .int l4_77), (5, .int l5_77), (7, .int l7_77)]) dX9_rowOf_97 rfl (by decide) rfl ?_
    refine r_goto 114 dX9_rowOf_98 (by decide) ?_
    exact r_sub [2, 1, 0, 3, 4] rfl (J114 x87 v97 l4_77 l5_77 h)
  refine r_iload dX9_rowOf_10 4 rfl ?_
  refine r_aload_n dX9_rowOf_12 0 rfl ?_
  obtain ⟨x13, e13, h⟩ := Sat_bind h
  refine r_getI fk_X9_21 rfl e13 dX9_rowOf_13 ?_
  refine r_icmp_ge 120 dX9_rowOf_16 (by decide) (fun c16 => ?_) (fun c16 => ?_)
  · have h := Sat_pos c16 h
    have h := hX10 _ (Sat_some h)
    refine r_iload_n dX9_rowOf_120 1 rfl ?_
    exact r_ireturn rfl (by rw [← Sat_eq h]; exact ⟨rfl, rfl⟩) dX9_rowOf_121
  · have h := Sat_neg c16 h
    refine r_aload_n dX9_rowOf_19 0 rfl ?_
    obtain ⟨x20, e20, h⟩ := Sat_bind h
    refine r_getP fk_X9_15 rfl e20 dX9_rowOf_20 ?_
    refine r_aload_n dX9_rowOf_23 0 rfl ?_
    obtain ⟨x24, e24, h⟩ := Sat_bind h
    refine r_getP fk_X9_9 rfl e24 dX9_rowOf_24 ?_
    refine r_iload dX9_rowOf_27 4 rfl ?_
    obtain ⟨x29, e29, h⟩ := Sat_bind h
    refine r_iaload e29 dX9_rowOf_29 ?_
    obtain ⟨x30, e30, h⟩ := Sat_bind h
    refine r_iaload e30 dX9_rowOf_30 ?_
    refine r_iload_n dX9_rowOf_31 2 rfl ?_
    refine r_iconst (v := -1) dX9_rowOf_32 (by decide) ?_
    refine r_ixor dX9_rowOf_33 ?_
    refine r_iand dX9_rowOf_34 ?_
    obtain ⟨v35, e35, h⟩ := Sat_bind h
    refine r_topi (Option.some.inj e35) ?_
    refine r_istore (lv' := [(6, .int v35), (0, .ref a0), (2, .int s10.1), (3, .int s10.2.1), (4, .int s10.2.2.1), (5, .int s10.2.2.2)]) dX9_rowOf_35 (by decide) rfl ?_
    refine r_iconst (v := 0) dX9_rowOf_37 (by decide) ?_
    refine r_istore (lv' := [(7, .int (0 : Int32)), (6, .int v35), (0, .ref a0), (2, .int s10.1), (3, .int s10.2.1), (4, .int s10.2.2.1), (5, .int s10.2.2.2)]) dX9_rowOf_38 (by decide) rfl ?_
    refine r_sub (lv' := [(0, .ref a0), (2, .int s10.1), (3, .int s10.2.1), (4, .int s10.2.2.1), (5, .int s10.2.2.2), (6, .int v35), (7, .int (0 : Int32))]) [2, 3, 4, 5, 6, 1, 0] rfl ?_
    refine whl_K (s0 := ((s10.2.2.1, (0 : Int32)) : Int32 × Int32)) (RR := fun (s40 : Int32 × Int32) => Rn_X9_rowOf G (fun v μ' => v = some (.int r) ∧ μ' = μ) 40 [(0, .ref a0), (2, .int s10.1), (3, .int s10.2.1), (4, .int s40.1), (5, .int s10.2.2.2), (6, .int v35), (7, .int s40.2)] [] μ) ?_ (Sat_bindK h)
    intro s40 K40 hI40 hX40 h
    have J108 : ∀ (l4_108 : Int32) (l7_108 : Int32), Sat (f_X9_rowOf_J108 a0 s10.1 s10.2.1 l4_108 s10.2.2.2 v35 l7_108 μ) K40 → Rn_X9_rowOf G (fun v μ' => v = some (.int r) ∧ μ' = μ) 108 [(0, .ref a0), (2, .int s10.1), (3, .int s10.2.1), (4, .int l4_108), (5, .int s10.2.2.2), (6, .int v35), (7, .int l7_108)] [] μ := by
      intro l4_108 l7_108 h
      obtain ⟨v108, e108, h⟩ := Sat_bind h
      refine r_iinc (j := 6) (v := v108) (lv' := [(7, .int v108), (0, .ref a0), (2, .int s10.1), (3, .int s10.2.1), (4, .int l4_108), (5, .int s10.2.2.2), (6, .int v35)]) dX9_rowOf_108 rfl (iinc_v e108 (by decide)) (by decide) rfl ?_
      refine r_goto 40 dX9_rowOf_111 (by decide) ?_
      exact r_sub [1, 2, 3, 4, 5, 6, 0] rfl (hI40 _ (Sat_some h))
    refine r_iload dX9_rowOf_40 6 rfl ?_
    refine r_bipush (v := 8) dX9_rowOf_42 (by decide) ?_
    refine r_icmp_ge 114 dX9_rowOf_44 (by decide) (fun c44 => ?_) (fun c44 => ?_)
    · have h := Sat_pos c44 h
      have h := hX40 _ (Sat_some h)
      exact r_sub [0, 1, 2, 3, 4] rfl (J114 s10.1 s10.2.1 s40.1 s10.2.2.2 h)
    · have h := Sat_neg c44 h
      refine r_iload dX9_rowOf_47 5 rfl ?_
      refine r_iload dX9_rowOf_49 6 rfl ?_
      refine r_ishr dX9_rowOf_51 ?_
      refine r_iconst (v := 1) dX9_rowOf_52 (by decide) ?_
      refine r_iand dX9_rowOf_53 ?_
      refine r_if_eq 108 dX9_rowOf_54 (by decide) (fun c54 => ?_) (fun c54 => ?_)
      · have h := Sat_pos c54 h
        exact r_sub [0, 1, 2, 3, 4, 5, 6] rfl (J108 s40.1 s40.2 h)
      · have h := Sat_neg c54 h
        refine r_aload_n dX9_rowOf_57 0 rfl ?_
        obtain ⟨x58, e58, h⟩ := Sat_bind h
        refine r_getP fk_X9_18 rfl e58 dX9_rowOf_58 ?_
        refine r_iload_n dX9_rowOf_61 2 rfl ?_
        refine r_iconst (v := 1) dX9_rowOf_62 (by decide) ?_
        refine r_iload dX9_rowOf_63 6 rfl ?_
        refine r_ishl dX9_rowOf_65 ?_
        refine r_ior dX9_rowOf_66 ?_
        obtain ⟨x67, e67, h⟩ := Sat_bind h
        refine r_iaload e67 dX9_rowOf_67 ?_
        refine r_istore (lv' := [(8, .int x67), (0, .ref a0), (2, .int s10.1), (3, .int s10.2.1), (4, .int s40.1), (5, .int s10.2.2.2), (6, .int v35), (7, .int s40.2)]) dX9_rowOf_68 (by decide) rfl ?_
        refine r_iload dX9_rowOf_70 4 rfl ?_
        refine r_iload dX9_rowOf_72 0 rfl ?_
        refine r_icmp_ge 101 dX9_rowOf_74 (by decide) (fun c74 => ?_) (fun c74 => ?_)
        · have h := Sat_pos c74 h
          refine r_iload dX9_rowOf_101 4 rfl ?_
          refine r_iload dX9_rowOf_103 0 rfl ?_
          refine r_isub dX9_rowOf_105 ?_
          obtain ⟨v106, e106, h⟩ := Sat_bind h
          refine r_topi (Option.some.inj e106) ?_
          refine r_istore (lv' := [(4, .int v106), (8, .int x67), (0, .ref a0), (2, .int s10.1), (3, .int s10.2.1), (5, .int s10.2.2.2), (6, .int v35), (7, .int s40.2)]) dX9_rowOf_106 (by decide) rfl ?_
          exact r_sub [2, 3, 4, 0, 5, 6, 7] rfl (J108 v106 s40.2 h)
        · have h := Sat_neg c74 h
          have h := hX40 _ (Sat_some h)
          exact r_sub [1, 2, 3, 4, 5, 7] rfl (J77 s10.1 s10.2.1 s40.1 s10.2.2.2 s40.2 h)
theorem dX3_pass_0 : decode cX3_pass 0 = .ok (.iconst 1, 1) := by decide +kernel
theorem dX3_pass_1 : decode cX3_pass 1 = .ok (.aload_n 2, 1) := by decide +kernel
theorem dX3_pass_2 : decode cX3_pass 2 = .ok (.getfield 41, 3) := by decide +kernel
theorem dX3_pass_5 : decode cX3_pass 5 = .ok (.invokestatic 46, 3) := by decide +kernel
theorem dX3_pass_8 : decode cX3_pass 8 = .ok (.istore 4, 2) := by decide +kernel
theorem dX3_pass_10 : decode cX3_pass 10 = .ok (.aload_n 3, 1) := by decide +kernel
theorem dX3_pass_11 : decode cX3_pass 11 = .ok (.aload_n 0, 1) := by decide +kernel
theorem dX3_pass_12 : decode cX3_pass 12 = .ok (.getfield 23, 3) := by decide +kernel
theorem dX3_pass_15 : decode cX3_pass 15 = .ok (.invokevirtual 52, 3) := by decide +kernel
theorem dX3_pass_18 : decode cX3_pass 18 = .ok (.iconst 0, 1) := by decide +kernel
theorem dX3_pass_19 : decode cX3_pass 19 = .ok (.istore 5, 2) := by decide +kernel
theorem dX3_pass_21 : decode cX3_pass 21 = .ok (.iload 5, 2) := by decide +kernel
theorem dX3_pass_23 : decode cX3_pass 23 = .ok (.iload_n 1, 1) := by decide +kernel
theorem dX3_pass_24 : decode cX3_pass 24 = .ok (.if_icmp .ge 134, 3) := by decide +kernel
theorem dX3_pass_27 : decode cX3_pass 27 = .ok (.aload_n 0, 1) := by decide +kernel
theorem dX3_pass_28 : decode cX3_pass 28 = .ok (.getfield 26, 3) := by decide +kernel
theorem dX3_pass_31 : decode cX3_pass 31 = .ok (.iload 4, 2) := by decide +kernel
theorem dX3_pass_33 : decode cX3_pass 33 = .ok (.irem, 1) := by decide +kernel
theorem dX3_pass_34 : decode cX3_pass 34 = .ok (.istore 6, 2) := by decide +kernel
theorem dX3_pass_36 : decode cX3_pass 36 = .ok (.iconst 0, 1) := by decide +kernel
theorem dX3_pass_37 : decode cX3_pass 37 = .ok (.istore 7, 2) := by decide +kernel
theorem dX3_pass_39 : decode cX3_pass 39 = .ok (.iload 7, 2) := by decide +kernel
theorem dX3_pass_41 : decode cX3_pass 41 = .ok (.aload_n 2, 1) := by decide +kernel
theorem dX3_pass_42 : decode cX3_pass 42 = .ok (.getfield 58, 3) := by decide +kernel
theorem dX3_pass_45 : decode cX3_pass 45 = .ok (.getfield 62, 3) := by decide +kernel
theorem dX3_pass_48 : decode cX3_pass 48 = .ok (.if_icmp .ge 55, 3) := by decide +kernel
theorem dX3_pass_51 : decode cX3_pass 51 = .ok (.iload 7, 2) := by decide +kernel
theorem dX3_pass_53 : decode cX3_pass 53 = .ok (.bipush 12, 2) := by decide +kernel
theorem dX3_pass_55 : decode cX3_pass 55 = .ok (.if_icmp .ge 48, 3) := by decide +kernel
theorem dX3_pass_58 : decode cX3_pass 58 = .ok (.aload_n 3, 1) := by decide +kernel
theorem dX3_pass_59 : decode cX3_pass 59 = .ok (.iload 7, 2) := by decide +kernel
theorem dX3_pass_61 : decode cX3_pass 61 = .ok (.bipush 7, 2) := by decide +kernel
theorem dX3_pass_63 : decode cX3_pass 63 = .ok (.iconst 0, 1) := by decide +kernel
theorem dX3_pass_64 : decode cX3_pass 64 = .ok (.invokevirtual 67, 3) := by decide +kernel
theorem dX3_pass_67 : decode cX3_pass 67 = .ok (.aload_n 3, 1) := by decide +kernel
theorem dX3_pass_68 : decode cX3_pass 68 = .ok (.aload_n 0, 1) := by decide +kernel
theorem dX3_pass_69 : decode cX3_pass 69 = .ok (.getfield 9, 3) := by decide +kernel
theorem dX3_pass_72 : decode cX3_pass 72 = .ok (.iload 7, 2) := by decide +kernel
theorem dX3_pass_74 : decode cX3_pass 74 = .ok (.iaload, 1) := by decide +kernel
theorem dX3_pass_75 : decode cX3_pass 75 = .ok (.iload 6, 2) := by decide +kernel
theorem dX3_pass_77 : decode cX3_pass 77 = .ok (.invokevirtual 71, 3) := by decide +kernel
theorem dX3_pass_80 : decode cX3_pass 80 = .ok (.istore 8, 2) := by decide +kernel
theorem dX3_pass_82 : decode cX3_pass 82 = .ok (.aload_n 0, 1) := by decide +kernel
theorem dX3_pass_83 : decode cX3_pass 83 = .ok (.getfield 9, 3) := by decide +kernel
theorem dX3_pass_86 : decode cX3_pass 86 = .ok (.iload 7, 2) := by decide +kernel
theorem dX3_pass_88 : decode cX3_pass 88 = .ok (.aload_n 3, 1) := by decide +kernel
theorem dX3_pass_89 : decode cX3_pass 89 = .ok (.iload 8, 2) := by decide +kernel
theorem dX3_pass_91 : decode cX3_pass 91 = .ok (.iload 6, 2) := by decide +kernel
theorem dX3_pass_93 : decode cX3_pass 93 = .ok (.invokevirtual 74, 3) := by decide +kernel
theorem dX3_pass_96 : decode cX3_pass 96 = .ok (.iastore, 1) := by decide +kernel
theorem dX3_pass_97 : decode cX3_pass 97 = .ok (.iinc 7 1, 3) := by decide +kernel
theorem dX3_pass_100 : decode cX3_pass 100 = .ok (.goto (-61), 3) := by decide +kernel
theorem dX3_pass_103 : decode cX3_pass 103 = .ok (.aload_n 0, 1) := by decide +kernel
theorem dX3_pass_104 : decode cX3_pass 104 = .ok (.dup, 1) := by decide +kernel
theorem dX3_pass_105 : decode cX3_pass 105 = .ok (.getfield 26, 3) := by decide +kernel
theorem dX3_pass_108 : decode cX3_pass 108 = .ok (.iconst 1, 1) := by decide +kernel
theorem dX3_pass_109 : decode cX3_pass 109 = .ok (.iadd, 1) := by decide +kernel
theorem dX3_pass_110 : decode cX3_pass 110 = .ok (.putfield 26, 3) := by decide +kernel
theorem dX3_pass_113 : decode cX3_pass 113 = .ok (.iload 6, 2) := by decide +kernel
theorem dX3_pass_115 : decode cX3_pass 115 = .ok (.iload 4, 2) := by decide +kernel
theorem dX3_pass_117 : decode cX3_pass 117 = .ok (.iconst 1, 1) := by decide +kernel
theorem dX3_pass_118 : decode cX3_pass 118 = .ok (.isub, 1) := by decide +kernel
theorem dX3_pass_119 : decode cX3_pass 119 = .ok (.if_icmp .ne 33, 3) := by decide +kernel
theorem dX3_pass_122 : decode cX3_pass 122 = .ok (.aload_n 0, 1) := by decide +kernel
theorem dX3_pass_123 : decode cX3_pass 123 = .ok (.aload_n 2, 1) := by decide +kernel
theorem dX3_pass_124 : decode cX3_pass 124 = .ok (.getfield 77, 3) := by decide +kernel
theorem dX3_pass_127 : decode cX3_pass 127 = .ok (.aload_n 0, 1) := by decide +kernel
theorem dX3_pass_128 : decode cX3_pass 128 = .ok (.aload_n 2, 1) := by decide +kernel
theorem dX3_pass_129 : decode cX3_pass 129 = .ok (.getfield 77, 3) := by decide +kernel
theorem dX3_pass_132 : decode cX3_pass 132 = .ok (.invokevirtual 81, 3) := by decide +kernel
theorem dX3_pass_135 : decode cX3_pass 135 = .ok (.invokevirtual 87, 3) := by decide +kernel
theorem dX3_pass_138 : decode cX3_pass 138 = .ok (.invokevirtual 91, 3) := by decide +kernel
theorem dX3_pass_141 : decode cX3_pass 141 = .ok (.putfield 23, 3) := by decide +kernel
theorem dX3_pass_144 : decode cX3_pass 144 = .ok (.aload_n 3, 1) := by decide +kernel
theorem dX3_pass_145 : decode cX3_pass 145 = .ok (.aload_n 0, 1) := by decide +kernel
theorem dX3_pass_146 : decode cX3_pass 146 = .ok (.getfield 23, 3) := by decide +kernel
theorem dX3_pass_149 : decode cX3_pass 149 = .ok (.invokevirtual 52, 3) := by decide +kernel
theorem dX3_pass_152 : decode cX3_pass 152 = .ok (.iinc 5 1, 3) := by decide +kernel
theorem dX3_pass_155 : decode cX3_pass 155 = .ok (.goto (-134), 3) := by decide +kernel
theorem dX3_pass_158 : decode cX3_pass 158 = .ok (.return_, 1) := by decide +kernel
noncomputable def f_X3_pass_J152 (a0 : Nat) (l1 : Int32) (l2 : Nat) (l3 : Nat) (l4 : Int32) (l5 : Int32) (μ : Mm) : Option ((Int32 × Mm) ⊕ (Mm)) :=
  (some (l5 + (1 : Int32))).bind fun v152 => some (.inl (v152, μ))
noncomputable def f_X3_pass_J103 (a0 : Nat) (l1 : Int32) (l2 : Nat) (l3 : Nat) (l4 : Int32) (l5 : Int32) (l6 : Int32) (μ : Mm) : Option ((Int32 × Mm) ⊕ (Mm)) :=
  (gf_I 4 4 a0 μ).bind fun x105 => (pf_I 4 4 a0 (x105 + (1 : Int32)) μ).bind fun μ110 => if l6 = (l4 - (1 : Int32)) then (gf_P 8 8 l2 μ110).bind fun x124 => (gf_P 8 8 l2 μ110).bind fun x129 => (f_X9_howMany x129 μ110).bind fun x132 => (f_X3_drawn a0 x132 μ110).bind fun x135 => (f_X9_rowOf x124 x135.1 x135.2).bind fun x138 => (pf_I 4 3 a0 x138 x135.2).bind fun μ141 => (gf_I 4 3 a0 μ141).bind fun x146 => (f_X4_setTurning l3 x146 μ141).bind fun x149 => f_X3_pass_J152 a0 l1 l2 l3 l4 l5 x149 else f_X3_pass_J152 a0 l1 l2 l3 l4 l5 μ110
noncomputable def f_X3_pass_L39 (a0 : Nat) (l1 : Int32) (l2 : Nat) (l3 : Nat) (l4 : Int32) (l5 : Int32) (l6 : Int32) (s39 : Int32 × Mm) : Option ((Int32 × Mm) ⊕ (Mm)) :=
  (gf_P 8 3 l2 s39.2).bind fun x42 => (gf_I 3 1 x42 s39.2).bind fun x45 => if x45 ≤ s39.1 then some (.inr s39.2) else if (12 : Int32) ≤ s39.1 then some (.inr s39.2) else (f_X4_setFact l3 s39.1 (7 : Int32) (0 : Int32) s39.2).bind fun x64 => (gf_P 4 0 a0 x64).bind fun x69 => (ga_I x69 s39.1 x64).bind fun x74 => (f_X4_byDay l3 x74 l6 x64).bind fun x77 => (gf_P 4 0 a0 x64).bind fun x83 => (f_X4_byNight l3 x77 l6 x64).bind fun x93 => (pa_I x83 s39.1 x93 x64).bind fun μ96 => (some (s39.1 + (1 : Int32))).bind fun v97 => some (.inl (v97, μ96))
noncomputable def f_X3_pass_L21 (a0 : Nat) (l1 : Int32) (l2 : Nat) (l3 : Nat) (l4 : Int32) (s21 : Int32 × Mm) : Option ((Int32 × Mm) ⊕ (Mm)) :=
  if l1 ≤ s21.1 then some (.inr s21.2) else (gf_I 4 4 a0 s21.2).bind fun x28 => if l4 = 0 then none else (some (x28 - x28 / l4 * l4)).bind fun v34 => (whl (f_X3_pass_L39 a0 l1 l2 l3 l4 s21.1 v34) ((0 : Int32), s21.2)).bind (fun b39 => f_X3_pass_J103 a0 l1 l2 l3 l4 s21.1 v34 b39)
noncomputable def f_X3_pass (a0 : Nat) (l1 : Int32) (l2 : Nat) (l3 : Nat) (μ : Mm) : Option Mm :=
  if (mm_K μ a0).1 = 4 then (gf_I 8 15 l2 μ).bind fun x2 => (some (if (1 : Int32) < x2 then x2 else (1 : Int32))).bind fun v8 => (gf_I 4 3 a0 μ).bind fun x12 => (f_X4_setTurning l3 x12 μ).bind fun x15 => (whl (f_X3_pass_L21 a0 l1 l2 l3 v8) ((0 : Int32), x15)).bind (fun b21 => some b21) else none
abbrev Rn_X3_pass (G : Gv) (Q : Option Value → Mm → Prop) (pc : Nat) (lv : List (Nat × Value)) (st : List Value) (μ : Mm) : Prop := Rn G RX3 cX3_pass 9 none "pass" (rmd 2 0 0) (Zm G 0 0 Q) 0 0 pc lv st μ
set_option maxRecDepth 100000 in
set_option maxHeartbeats 4000000 in
theorem m_X3_pass {G : Gv} (a0 : Nat) (l1 : Int32) (l2 : Nat) (l3 : Nat) (μ : Mm) {r : Mm} (hx : f_X3_pass a0 l1 l2 l3 μ = some r) : Mt G yX3_pass cX3_pass 9 none 2 0 0 [.ref a0, .int l1, .ref l2, .ref l3] μ (fun v μ' => v = none ∧ μ' = r) := by
  refine Mt.of (by decide) (Nat.le_of_ble_eq_true rfl) ?_
  show Rn_X3_pass G (fun v μ' => v = none ∧ μ' = r) 0 [(0, .ref a0), (1, .int l1), (2, .ref l2), (3, .ref l3)] [] μ
  obtain ⟨_, h⟩ := Sat_ifp (show Sat (f_X3_pass a0 l1 l2 l3 μ) (fun x => x = r) from ⟨_, hx, rfl⟩)
  refine r_iconst (v := 1) dX3_pass_0 (by decide) ?_
  refine r_aload_n dX3_pass_1 2 rfl ?_
  obtain ⟨x2, e2, h⟩ := Sat_bind h
  refine r_getI fk_X3_41 rfl e2 dX3_pass_2 ?_
  refine r_mmax mmax_X3_46 mx_st_max mx_ii mx_co_max (Nat.le_of_ble_eq_true rfl) ⟨by decide, by decide⟩ ⟨by decide, by decide⟩ dX3_pass_5 ?_
  obtain ⟨v8, e8, h⟩ := Sat_bind h
  refine r_topi (Option.some.inj e8) ?_
  refine r_istore (lv' := [(4, .int v8), (0, .ref a0), (1, .int l1), (2, .ref l2), (3, .ref l3)]) dX3_pass_8 (by decide) rfl ?_
  refine r_aload_n dX3_pass_10 4 rfl ?_
  refine r_aload_n dX3_pass_11 1 rfl ?_
  obtain ⟨x12, e12, h⟩ := Sat_bind h
  refine r_getI fk_X3_23 rfl e12 dX3_pass_12 ?_
  obtain ⟨x15, e15, h⟩ := Sat_bind h
  refine r_cV (t := 5) [.int x12] [] (m_X4_setTurning l3 x12 μ e15) ck_X4_setTurning lk_X3_52 in_X4_setTurning se_X4_setTurning (kd_of e15) ⟨rfl, by decide, by decide⟩ rfl rfl (Nat.le_of_ble_eq_true rfl) ⟨by decide, by decide⟩ ⟨Nat.zero_le _, Nat.zero_le _⟩ dX3_pass_15 ?_
  refine r_iconst (v := 0) dX3_pass_18 (by decide) ?_
  refine r_istore (lv' := [(5, .int (0 : Int32)), (4, .int v8), (0, .ref a0), (1, .int l1), (2, .ref l2), (3, .ref l3)]) dX3_pass_19 (by decide) rfl ?_
  refine r_sub (lv' := [(0, .ref a0), (1, .int l1), (2, .ref l2), (3, .ref l3), (4, .int v8), (5, .int (0 : Int32))]) [2, 3, 4, 5, 1, 0] rfl ?_
  refine whl_K (s0 := (((0 : Int32), x15) : Int32 × Mm)) (RR := fun (s21 : Int32 × Mm) => Rn_X3_pass G (fun v μ' => v = none ∧ μ' = r) 21 [(0, .ref a0), (1, .int l1), (2, .ref l2), (3, .ref l3), (4, .int v8), (5, .int s21.1)] [] s21.2) ?_ (Sat_bindK h)
  intro s21 K21 hI21 hX21 h
  have J152 : ∀ (l5_152 : Int32) (μ_152 : Mm), Sat (f_X3_pass_J152 a0 l1 l2 l3 v8 l5_152 μ_152) K21 → Rn_X3_pass G (fun v μ' => v = none ∧ μ' = r) 152 [(0, .ref a0), (1, .int l1), (2, .ref l2), (3, .ref l3), (4, .int v8), (5, .int l5_152)] [] μ_152 := by
    intro l5_152 μ_152 h
    obtain ⟨v152, e152, h⟩ := Sat_bind h
    refine r_iinc (j := 5) (v := v152) (lv' := [(5, .int v152), (0, .ref a0), (1, .int l1), (2, .ref l2), (3, .ref l3), (4, .int v8)]) dX3_pass_152 rfl (iinc_v e152 (by decide)) (by decide) rfl ?_
    refine r_goto 21 dX3_pass_155 (by decide) ?_
    exact r_sub [1, 2, 3, 4, 5, 0] rfl (hI21 _ (Sat_some h))
  have J103 : ∀ (l5_103 : Int32) (l6_103 : Int32) (μ_103 : Mm), Sat (f_X3_pass_J103 a0 l1 l2 l3 v8 l5_103 l6_103 μ_103) K21 → Rn_X3_pass G (fun v μ' => v = none ∧ μ' = r) 103 [(0, .ref a0), (1, .int l1), (2, .ref l2), (3, .ref l3), (4, .int v8), (5, .int l5_103), (6, .int l6_103)] [] μ_103 := by
    intro l5_103 l6_103 μ_103 h
    refine r_aload_n dX3_pass_103 0 rfl ?_
    refine r_dup dX3_pass_104 rfl ?_
    obtain ⟨x105, e105, h⟩ := Sat_bind h
    refine r_getI fk_X3_26 rfl e105 dX3_pass_105 ?_
    refine r_iconst (v := 1) dX3_pass_108 (by decide) ?_
    refine r_iadd dX3_pass_109 ?_
    obtain ⟨μ110, e110, h⟩ := Sat_bind h
    refine r_putI fk_X3_26 rfl rfl e110 dX3_pass_110 ?_
    refine r_iload dX3_pass_113 6 rfl ?_
    refine r_iload dX3_pass_115 4 rfl ?_
    refine r_iconst (v := 1) dX3_pass_117 (by decide) ?_
    refine r_isub dX3_pass_118 ?_
    refine r_icmp_ne 152 dX3_pass_119 (by decide) (fun c119 => ?_) (fun c119 => ?_)
    · have h := Sat_neg c119 h
      exact r_sub [0, 1, 2, 3, 4, 5] rfl (J152 l5_103 μ110 h)
    · have h := Sat_pos c119 h
      refine r_aload_n dX3_pass_122 0 rfl ?_
      refine r_aload_n dX3_pass_123 2 rfl ?_
      obtain ⟨x124, e124, h⟩ := Sat_bind h
      refine r_getP fk_X3_77 rfl e124 dX3_pass_124 ?_
      refine r_aload_n dX3_pass_127 0 rfl ?_
      refine r_aload_n dX3_pass_128 2 rfl ?_
      obtain ⟨x129, e129, h⟩ := Sat_bind h
      refine r_getP fk_X3_77 rfl e129 dX3_pass_129 ?_
      obtain ⟨x132, e132, h⟩ := Sat_bind h
      refine r_cV (t := 10) [] [.ref a0, .ref x124, .ref a0] (m_X9_howMany x129 μ110 e132) ck_X9_howMany lk_X3_81 in_X9_howMany se_X9_howMany (kd_of e132) ⟨rfl, by decide, by decide⟩ rfl rfl (Nat.le_of_ble_eq_true rfl) ⟨by decide, by decide⟩ ⟨Nat.zero_le _, Nat.zero_le _⟩ dX3_pass_132 ?_
      obtain ⟨x135, e135, h⟩ := Sat_bind h
      refine r_cV (t := 4) [.int x132] [.ref x124, .ref a0] (m_X3_drawn a0 x132 μ110 e135) ck_X3_drawn lk_X3_87 in_X3_drawn se_X3_drawn (kd_of e135) ⟨rfl, by decide, by decide⟩ rfl rfl (Nat.le_of_ble_eq_true rfl) ⟨by decide, by decide⟩ ⟨Nat.zero_le _, Nat.zero_le _⟩ dX3_pass_135 ?_
      obtain ⟨x138, e138, h⟩ := Sat_bind h
      refine r_cV (t := 10) [.int x135.1] [.ref a0] (m_X9_rowOf x124 x135.1 x135.2 e138) ck_X9_rowOf lk_X3_91 in_X9_rowOf se_X9_rowOf (kd_of e138) ⟨rfl, by decide, by decide⟩ rfl rfl (Nat.le_of_ble_eq_true rfl) ⟨by decide, by decide⟩ ⟨Nat.zero_le _, Nat.zero_le _⟩ dX3_pass_138 ?_
      obtain ⟨μ141, e141, h⟩ := Sat_bind h
      refine r_putI fk_X3_23 rfl rfl e141 dX3_pass_141 ?_
      refine r_aload_n dX3_pass_144 3 rfl ?_
      refine r_aload_n dX3_pass_145 0 rfl ?_
      obtain ⟨x146, e146, h⟩ := Sat_bind h
      refine r_getI fk_X3_23 rfl e146 dX3_pass_146 ?_
      obtain ⟨x149, e149, h⟩ := Sat_bind h
      refine r_cV (t := 5) [.int x146] [] (m_X4_setTurning l3 x146 μ141 e149) ck_X4_setTurning lk_X3_52 in_X4_setTurning se_X4_setTurning (kd_of e149) ⟨rfl, by decide, by decide⟩ rfl rfl (Nat.le_of_ble_eq_true rfl) ⟨by decide, by decide⟩ ⟨Nat.zero_le _, Nat.zero_le _⟩ dX3_pass_149 ?_
      exact r_sub [0, 1, 2, 3, 4, 5] rfl (J152 l5_103 x149 h)
  refine r_iload dX3_pass_21 5 rfl ?_
  refine r_iload_n dX3_pass_23 1 rfl ?_
  refine r_icmp_ge 158 dX3_pass_24 (by decide) (fun c24 => ?_) (fun c24 => ?_)
  · have h := Sat_pos c24 h
    have h := hX21 _ (Sat_some h)
    exact r_vreturn rfl (by rw [← Sat_eq h]; exact ⟨rfl, rfl⟩) dX3_pass_158
  · have h := Sat_neg c24 h
    refine r_aload_n dX3_pass_27 0 rfl ?_
    obtain ⟨x28, e28, h⟩ := Sat_bind h
    refine r_getI fk_X3_26 rfl e28 dX3_pass_28 ?_
    refine r_iload dX3_pass_31 4 rfl ?_
    obtain ⟨z33, h⟩ := Sat_ifn h
    refine r_irem dX3_pass_33 z33 ?_
    obtain ⟨v34, e34, h⟩ := Sat_bind h
    refine r_topi (Option.some.inj e34) ?_
    refine r_istore (lv' := [(6, .int v34), (0, .ref a0), (1, .int l1), (2, .ref l2), (3, .ref l3), (4, .int v8), (5, .int s21.1)]) dX3_pass_34 (by decide) rfl ?_
    refine r_iconst (v := 0) dX3_pass_36 (by decide) ?_
    refine r_istore (lv' := [(7, .int (0 : Int32)), (6, .int v34), (0, .ref a0), (1, .int l1), (2, .ref l2), (3, .ref l3), (4, .int v8), (5, .int s21.1)]) dX3_pass_37 (by decide) rfl ?_
    refine r_sub (lv' := [(0, .ref a0), (1, .int l1), (2, .ref l2), (3, .ref l3), (4, .int v8), (5, .int s21.1), (6, .int v34), (7, .int (0 : Int32))]) [2, 3, 4, 5, 6, 7, 1, 0] rfl ?_
    refine whl_K (s0 := (((0 : Int32), s21.2) : Int32 × Mm)) (RR := fun (s39 : Int32 × Mm) => Rn_X3_pass G (fun v μ' => v = none ∧ μ' = r) 39 [(0, .ref a0), (1, .int l1), (2, .ref l2), (3, .ref l3), (4, .int v8), (5, .int s21.1), (6, .int v34), (7, .int s39.1)] [] s39.2) ?_ (Sat_bindK h)
    intro s39 K39 hI39 hX39 h
    refine r_iload dX3_pass_39 7 rfl ?_
    refine r_aload_n dX3_pass_41 2 rfl ?_
    obtain ⟨x42, e42, h⟩ := Sat_bind h
    refine r_getP fk_X3_58 rfl e42 dX3_pass_42 ?_
    obtain ⟨x45, e45, h⟩ := Sat_bind h
    refine r_getI fk_X3_62 rfl e45 dX3_pass_45 ?_
    refine r_icmp_ge 103 dX3_pass_48 (by decide) (fun c48 => ?_) (fun c48 => ?_)
    · have h := Sat_pos c48 h
      have h := hX39 _ (Sat_some h)
      exact r_sub [0, 1, 2, 3, 4, 5, 6] rfl (J103 s21.1 v34 s39.2 h)
    · have h := Sat_neg c48 h
      refine r_iload dX3_pass_51 7 rfl ?_
      refine r_bipush (v := 12) dX3_pass_53 (by decide) ?_
      refine r_icmp_ge 103 dX3_pass_55 (by decide) (fun c55 => ?_) (fun c55 => ?_)
      · have h := Sat_pos c55 h
        have h := hX39 _ (Sat_some h)
        exact r_sub [0, 1, 2, 3, 4, 5, 6] rfl (J103 s21.1 v34 s39.2 h)
      · have h := Sat_neg c55 h
        refine r_aload_n dX3_pass_58 3 rfl ?_
        refine r_iload dX3_pass_59 7 rfl ?_
        refine r_bipush (v := 7) dX3_pass_61 (by decide) ?_
        refine r_iconst (v := 0) dX3_pass_63 (by decide) ?_
        obtain ⟨x64, e64, h⟩ := Sat_bind h
        refine r_cV (t := 5) [.int s39.1, .int (7 : Int32), .int (0 : Int32)] [] (m_X4_setFact l3 s39.1 (7 : Int32) (0 : Int32) s39.2 e64) ck_X4_setFact lk_X3_67 in_X4_setFact se_X4_setFact (kd_of e64) ⟨rfl, by decide, by decide⟩ rfl rfl (Nat.le_of_ble_eq_true rfl) ⟨by decide, by decide⟩ ⟨Nat.zero_le _, Nat.zero_le _⟩ dX3_pass_64 ?_
        refine r_aload_n dX3_pass_67 3 rfl ?_
        refine r_aload_n dX3_pass_68 0 rfl ?_
        obtain ⟨x69, e69, h⟩ := Sat_bind h
        refine r_getP fk_X3_9 rfl e69 dX3_pass_69 ?_
        refine r_iload dX3_pass_72 7 rfl ?_
        obtain ⟨x74, e74, h⟩ := Sat_bind h
        refine r_iaload e74 dX3_pass_74 ?_
        refine r_iload dX3_pass_75 6 rfl ?_
        obtain ⟨x77, e77, h⟩ := Sat_bind h
        refine r_cV (t := 5) [.int x74, .int v34] [] (m_X4_byDay l3 x74 v34 x64 e77) ck_X4_byDay lk_X3_71 in_X4_byDay se_X4_byDay (kd_of e77) ⟨rfl, by decide, by decide⟩ rfl rfl (Nat.le_of_ble_eq_true rfl) ⟨by decide, by decide⟩ ⟨Nat.zero_le _, Nat.zero_le _⟩ dX3_pass_77 ?_
        refine r_istore (lv' := [(8, .int x77), (0, .ref a0), (1, .int l1), (2, .ref l2), (3, .ref l3), (4, .int v8), (5, .int s21.1), (6, .int v34), (7, .int s39.1)]) dX3_pass_80 (by decide) rfl ?_
        refine r_aload_n dX3_pass_82 1 rfl ?_
        obtain ⟨x83, e83, h⟩ := Sat_bind h
        refine r_getP fk_X3_9 rfl e83 dX3_pass_83 ?_
        refine r_iload dX3_pass_86 8 rfl ?_
        refine r_aload_n dX3_pass_88 4 rfl ?_
        refine r_iload dX3_pass_89 0 rfl ?_
        refine r_iload dX3_pass_91 7 rfl ?_
        obtain ⟨x93, e93, h⟩ := Sat_bind h
        refine r_cV (t := 5) [.int x77, .int v34] [.int s39.1, .ref x83] (m_X4_byNight l3 x77 v34 x64 e93) ck_X4_byNight lk_X3_74 in_X4_byNight se_X4_byNight (kd_of e93) ⟨rfl, by decide, by decide⟩ rfl rfl (Nat.le_of_ble_eq_true rfl) ⟨by decide, by decide⟩ ⟨Nat.zero_le _, Nat.zero_le _⟩ dX3_pass_93 ?_
        obtain ⟨μ96, e96, h⟩ := Sat_bind h
        refine r_iastore e96 dX3_pass_96 ?_
        obtain ⟨v97, e97, h⟩ := Sat_bind h
        refine r_iinc (j := 8) (v := v97) (lv' := [(7, .int v97), (8, .int x77), (0, .ref a0), (1, .int l1), (2, .ref l2), (3, .ref l3), (4, .int v8), (5, .int s21.1), (6, .int v34)]) dX3_pass_97 rfl (iinc_v e97 (by decide)) (by decide) rfl ?_
        refine r_goto 39 dX3_pass_100 (by decide) ?_
        exact r_sub [2, 3, 4, 5, 6, 7, 8, 0] rfl (hI39 _ (Sat_some h))
