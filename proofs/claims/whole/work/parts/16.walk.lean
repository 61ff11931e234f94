theorem dX11_byNight_0 : decode cX11_byNight 0 = .ok (.iload 4, 2) := by decide +kernel
theorem dX11_byNight_2 : decode cX11_byNight 2 = .ok (.iconst 1, 1) := by decide +kernel
theorem dX11_byNight_3 : decode cX11_byNight 3 = .ok (.iand, 1) := by decide +kernel
theorem dX11_byNight_4 : decode cX11_byNight 4 = .ok (.ifCond .ne 4, 3) := by decide +kernel
theorem dX11_byNight_7 : decode cX11_byNight 7 = .ok (.return_, 1) := by decide +kernel
theorem dX11_byNight_8 : decode cX11_byNight 8 = .ok (.iconst 0, 1) := by decide +kernel
theorem dX11_byNight_9 : decode cX11_byNight 9 = .ok (.istore 5, 2) := by decide +kernel
theorem dX11_byNight_11 : decode cX11_byNight 11 = .ok (.iload 5, 2) := by decide +kernel
theorem dX11_byNight_13 : decode cX11_byNight 13 = .ok (.bipush 8, 2) := by decide +kernel
theorem dX11_byNight_15 : decode cX11_byNight 15 = .ok (.if_icmp .ge 23, 3) := by decide +kernel
theorem dX11_byNight_18 : decode cX11_byNight 18 = .ok (.aload_n 0, 1) := by decide +kernel
theorem dX11_byNight_19 : decode cX11_byNight 19 = .ok (.getfield 79, 3) := by decide +kernel
theorem dX11_byNight_22 : decode cX11_byNight 22 = .ok (.iload 5, 2) := by decide +kernel
theorem dX11_byNight_24 : decode cX11_byNight 24 = .ok (.aload_n 0, 1) := by decide +kernel
theorem dX11_byNight_25 : decode cX11_byNight 25 = .ok (.getfield 76, 3) := by decide +kernel
theorem dX11_byNight_28 : decode cX11_byNight 28 = .ok (.iload 5, 2) := by decide +kernel
theorem dX11_byNight_30 : decode cX11_byNight 30 = .ok (.iaload, 1) := by decide +kernel
theorem dX11_byNight_31 : decode cX11_byNight 31 = .ok (.iastore, 1) := by decide +kernel
theorem dX11_byNight_32 : decode cX11_byNight 32 = .ok (.iinc 5 1, 3) := by decide +kernel
theorem dX11_byNight_35 : decode cX11_byNight 35 = .ok (.goto (-24), 3) := by decide +kernel
theorem dX11_byNight_38 : decode cX11_byNight 38 = .ok (.iconst 0, 1) := by decide +kernel
theorem dX11_byNight_39 : decode cX11_byNight 39 = .ok (.istore 5, 2) := by decide +kernel
theorem dX11_byNight_41 : decode cX11_byNight 41 = .ok (.iload 5, 2) := by decide +kernel
theorem dX11_byNight_43 : decode cX11_byNight 43 = .ok (.aload_n 0, 1) := by decide +kernel
theorem dX11_byNight_44 : decode cX11_byNight 44 = .ok (.getfield 17, 3) := by decide +kernel
theorem dX11_byNight_47 : decode cX11_byNight 47 = .ok (.iconst 0, 1) := by decide +kernel
theorem dX11_byNight_48 : decode cX11_byNight 48 = .ok (.iaload, 1) := by decide +kernel
theorem dX11_byNight_49 : decode cX11_byNight 49 = .ok (.if_icmp .ge 60, 3) := by decide +kernel
theorem dX11_byNight_52 : decode cX11_byNight 52 = .ok (.lload_n 1, 1) := by decide +kernel
theorem dX11_byNight_53 : decode cX11_byNight 53 = .ok (.iload 5, 2) := by decide +kernel
theorem dX11_byNight_55 : decode cX11_byNight 55 = .ok (.invokestatic 320, 3) := by decide +kernel
theorem dX11_byNight_58 : decode cX11_byNight 58 = .ok (.istore 6, 2) := by decide +kernel
theorem dX11_byNight_60 : decode cX11_byNight 60 = .ok (.iload 6, 2) := by decide +kernel
theorem dX11_byNight_62 : decode cX11_byNight 62 = .ok (.iconst (-1), 1) := by decide +kernel
theorem dX11_byNight_63 : decode cX11_byNight 63 = .ok (.if_icmp .eq 40, 3) := by decide +kernel
theorem dX11_byNight_66 : decode cX11_byNight 66 = .ok (.aload_n 0, 1) := by decide +kernel
theorem dX11_byNight_67 : decode cX11_byNight 67 = .ok (.iload 6, 2) := by decide +kernel
theorem dX11_byNight_69 : decode cX11_byNight 69 = .ok (.iload_n 3, 1) := by decide +kernel
theorem dX11_byNight_70 : decode cX11_byNight 70 = .ok (.invokevirtual 350, 3) := by decide +kernel
theorem dX11_byNight_73 : decode cX11_byNight 73 = .ok (.ifCond .ne 30, 3) := by decide +kernel
theorem dX11_byNight_76 : decode cX11_byNight 76 = .ok (.aload_n 0, 1) := by decide +kernel
theorem dX11_byNight_77 : decode cX11_byNight 77 = .ok (.iload 5, 2) := by decide +kernel
theorem dX11_byNight_79 : decode cX11_byNight 79 = .ok (.aload_n 0, 1) := by decide +kernel
theorem dX11_byNight_80 : decode cX11_byNight 80 = .ok (.getfield 79, 3) := by decide +kernel
theorem dX11_byNight_83 : decode cX11_byNight 83 = .ok (.iload 6, 2) := by decide +kernel
theorem dX11_byNight_85 : decode cX11_byNight 85 = .ok (.iaload, 1) := by decide +kernel
theorem dX11_byNight_86 : decode cX11_byNight 86 = .ok (.aload_n 0, 1) := by decide +kernel
theorem dX11_byNight_87 : decode cX11_byNight 87 = .ok (.getfield 17, 3) := by decide +kernel
theorem dX11_byNight_90 : decode cX11_byNight 90 = .ok (.bipush 8, 2) := by decide +kernel
theorem dX11_byNight_92 : decode cX11_byNight 92 = .ok (.iaload, 1) := by decide +kernel
theorem dX11_byNight_93 : decode cX11_byNight 93 = .ok (.iconst (-1), 1) := by decide +kernel
theorem dX11_byNight_94 : decode cX11_byNight 94 = .ok (.ixor, 1) := by decide +kernel
theorem dX11_byNight_95 : decode cX11_byNight 95 = .ok (.iand, 1) := by decide +kernel
theorem dX11_byNight_96 : decode cX11_byNight 96 = .ok (.iload_n 3, 1) := by decide +kernel
theorem dX11_byNight_97 : decode cX11_byNight 97 = .ok (.iconst 3, 1) := by decide +kernel
theorem dX11_byNight_98 : decode cX11_byNight 98 = .ok (.iload 6, 2) := by decide +kernel
theorem dX11_byNight_100 : decode cX11_byNight 100 = .ok (.invokevirtual 346, 3) := by decide +kernel
theorem dX11_byNight_103 : decode cX11_byNight 103 = .ok (.iinc 5 1, 3) := by decide +kernel
theorem dX11_byNight_106 : decode cX11_byNight 106 = .ok (.goto (-65), 3) := by decide +kernel
theorem dX11_byNight_109 : decode cX11_byNight 109 = .ok (.return_, 1) := by decide +kernel
noncomputable def f_X11_byNight_J103 (a0 : Nat) (l1 : Int64) (l3 : Int32) (l5 : Int32) (μ : Mm) : Option ((Int32 × Mm) ⊕ (Mm)) :=
  (some (l5 + (1 : Int32))).bind fun v103 => some (.inl (v103, μ))
noncomputable def f_X11_byNight_L41 (a0 : Nat) (l1 : Int64) (l3 : Int32) (s41 : Int32 × Mm) : Option ((Int32 × Mm) ⊕ (Mm)) :=
  (gf_P 12 12 a0 s41.2).bind fun x44 => (ga_I x44 (0 : Int32) s41.2).bind fun x48 => if x48 ≤ s41.1 then some (.inr s41.2) else (f_X11_dreamtBy l1 s41.1 s41.2).bind fun x55 => if x55 = (-1 : Int32) then f_X11_byNight_J103 a0 l1 l3 s41.1 s41.2 else (f_X11_isDull a0 x55 l3 s41.2).bind fun x70 => if x70 = 0 then (gf_P 12 36 a0 s41.2).bind fun x80 => (ga_I x80 x55 s41.2).bind fun x85 => (gf_P 12 12 a0 s41.2).bind fun x87 => (ga_I x87 (8 : Int32) s41.2).bind fun x92 => (f_X11_learns a0 s41.1 (x85 &&& (x92 ^^^ (-1 : Int32))) l3 (3 : Int32) x55 s41.2).bind fun x100 => f_X11_byNight_J103 a0 l1 l3 s41.1 x100 else f_X11_byNight_J103 a0 l1 l3 s41.1 s41.2
noncomputable def f_X11_byNight_J38 (a0 : Nat) (l1 : Int64) (l3 : Int32) (μ : Mm) : Option Mm :=
  (whl (f_X11_byNight_L41 a0 l1 l3) ((0 : Int32), μ)).bind (fun b41 => some b41)
noncomputable def f_X11_byNight_L11 (a0 : Nat) (l1 : Int64) (l3 : Int32) (s11 : Int32 × Mm) : Option ((Int32 × Mm) ⊕ (Mm)) :=
  if (8 : Int32) ≤ s11.1 then some (.inr s11.2) else (gf_P 12 36 a0 s11.2).bind fun x19 => (gf_P 12 35 a0 s11.2).bind fun x25 => (ga_I x25 s11.1 s11.2).bind fun x30 => (pa_I x19 s11.1 x30 s11.2).bind fun μ31 => (some (s11.1 + (1 : Int32))).bind fun v32 => some (.inl (v32, μ31))
noncomputable def f_X11_byNight (a0 : Nat) (l1 : Int64) (l3 : Int32) (l4 : Int32) (μ : Mm) : Option Mm :=
  if (mm_K μ a0).1 = 12 then if (l4 &&& (1 : Int32)) = 0 then some μ else (whl (f_X11_byNight_L11 a0 l1 l3) ((0 : Int32), μ)).bind (fun b11 => f_X11_byNight_J38 a0 l1 l3 b11) else none
abbrev Rn_X11_byNight (G : Gv) (Q : Option Value → Mm → Prop) (pc : Nat) (lv : List (Nat × Value)) (st : List Value) (μ : Mm) : Prop := Rn G RX11 cX11_byNight 7 none "byNight" (rmd 2 0 0) (Zm G 0 0 Q) 0 0 pc lv st μ
set_option maxRecDepth 100000 in
set_option maxHeartbeats 4000000 in
theorem m_X11_byNight {G : Gv} (a0 : Nat) (l1 : Int64) (l3 : Int32) (l4 : Int32) (μ : Mm) {r : Mm} (hx : f_X11_byNight a0 l1 l3 l4 μ = some r) : Mt G yX11_byNight cX11_byNight 7 none 2 0 0 [.ref a0, .long l1, .int l3, .int l4] μ (fun v μ' => v = none ∧ μ' = r) := by
  refine Mt.of (by decide) (Nat.le_of_ble_eq_true rfl) ?_
  show Rn_X11_byNight G (fun v μ' => v = none ∧ μ' = r) 0 [(0, .ref a0), (1, .long l1), (3, .int l3), (4, .int l4)] [] μ
  obtain ⟨_, h⟩ := Sat_ifp (show Sat (f_X11_byNight a0 l1 l3 l4 μ) (fun x => x = r) from ⟨_, hx, rfl⟩)
  have J38 : ∀ (a0_38 : Nat) (l1_38 : Int64) (l3_38 : Int32) (μ_38 : Mm), Sat (f_X11_byNight_J38 a0_38 l1_38 l3_38 μ_38) (fun x => x = r) → Rn_X11_byNight G (fun v μ' => v = none ∧ μ' = r) 38 [(0, .ref a0_38), (1, .long l1_38), (3, .int l3_38)] [] μ_38 := by
    intro a0_38 l1_38 l3_38 μ_38 h
    refine r_iconst (v := 0) dX11_byNight_38 (by decide) ?_
    refine r_istore (lv' := [(5, .int (0 : Int32)), (0, .ref a0_38), (1, .long l1_38), (3, .int l3_38)]) dX11_byNight_39 (by decide) rfl ?_
    refine r_sub (lv' := [(0, .ref a0_38), (1, .long l1_38), (3, .int l3_38), (5, .int (0 : Int32))]) [1, 2, 3, 0] rfl ?_
    refine whl_K (s0 := (((0 : Int32), μ_38) : Int32 × Mm)) (RR := fun (s41 : Int32 × Mm) => Rn_X11_byNight G (fun v μ' => v = none ∧ μ' = r) 41 [(0, .ref a0_38), (1, .long l1_38), (3, .int l3_38), (5, .int s41.1)] [] s41.2) ?_ (Sat_bindK h)
    intro s41 K41 hI41 hX41 h
    have J103 : ∀ (l5_103 : Int32) (μ_103 : Mm), Sat (f_X11_byNight_J103 a0_38 l1_38 l3_38 l5_103 μ_103) K41 → Rn_X11_byNight G (fun v μ' => v = none ∧ μ' = r) 103 [(0, .ref a0_38), (1, .long l1_38), (3, .int l3_38), (5, .int l5_103)] [] μ_103 := by
      intro l5_103 μ_103 h
      obtain ⟨v103, e103, h⟩ := Sat_bind h
      refine r_iinc (j := 3) (v := v103) (lv' := [(5, .int v103), (0, .ref a0_38), (1, .long l1_38), (3, .int l3_38)]) dX11_byNight_103 rfl (iinc_v e103 (by decide)) (by decide) rfl ?_
      refine r_goto 41 dX11_byNight_106 (by decide) ?_
      exact r_sub [1, 2, 3, 0] rfl (hI41 _ (Sat_some h))
    refine r_iload dX11_byNight_41 3 rfl ?_
    refine r_aload_n dX11_byNight_43 0 rfl ?_
    obtain ⟨x44, e44, h⟩ := Sat_bind h
    refine r_getP fk_X11_17 rfl e44 dX11_byNight_44 ?_
    refine r_iconst (v := 0) dX11_byNight_47 (by decide) ?_
    obtain ⟨x48, e48, h⟩ := Sat_bind h
    refine r_iaload e48 dX11_byNight_48 ?_
    refine r_icmp_ge 109 dX11_byNight_49 (by decide) (fun c49 => ?_) (fun c49 => ?_)
    · have h := Sat_pos c49 h
      have h := hX41 _ (Sat_some h)
      exact r_vreturn rfl (by rw [← Sat_eq h]; exact ⟨rfl, rfl⟩) dX11_byNight_109
    · have h := Sat_neg c49 h
      refine r_lload_n dX11_byNight_52 1 rfl ?_
      refine r_iload dX11_byNight_53 3 rfl ?_
      obtain ⟨x55, e55, h⟩ := Sat_bind h
      refine r_cS [.long l1_38, .int s41.1] [] (m_X11_dreamtBy l1_38 s41.1 s41.2 e55) ck_X11_dreamtBy lk_X11_320 st_X11_dreamtBy rfl rfl (Nat.le_of_ble_eq_true rfl) ⟨by decide, by decide⟩ ⟨Nat.zero_le _, Nat.zero_le _⟩ dX11_byNight_55 ?_
      refine r_istore (lv' := [(6, .int x55), (0, .ref a0_38), (1, .long l1_38), (3, .int l3_38), (5, .int s41.1)]) dX11_byNight_58 (by decide) rfl ?_
      refine r_iload dX11_byNight_60 0 rfl ?_
      refine r_iconst (v := -1) dX11_byNight_62 (by decide) ?_
      refine r_icmp_eq 103 dX11_byNight_63 (by decide) (fun c63 => ?_) (fun c63 => ?_)
      · have h := Sat_pos c63 h
        exact r_sub [1, 2, 3, 4] rfl (J103 s41.1 s41.2 h)
      · have h := Sat_neg c63 h
        refine r_aload_n dX11_byNight_66 1 rfl ?_
        refine r_iload dX11_byNight_67 0 rfl ?_
        refine r_iload_n dX11_byNight_69 3 rfl ?_
        obtain ⟨x70, e70, h⟩ := Sat_bind h
        refine r_cV (t := 12) [.int x55, .int l3_38] [] (m_X11_isDull a0_38 x55 l3_38 s41.2 e70) ck_X11_isDull lk_X11_350 in_X11_isDull se_X11_isDull (kd_of e70) ⟨rfl, by decide, by decide⟩ rfl rfl (Nat.le_of_ble_eq_true rfl) ⟨by decide, by decide⟩ ⟨Nat.zero_le _, Nat.zero_le _⟩ dX11_byNight_70 ?_
        refine r_if_ne 103 dX11_byNight_73 (by decide) (fun c73 => ?_) (fun c73 => ?_)
        · have h := Sat_neg c73 h
          exact r_sub [1, 2, 3, 4] rfl (J103 s41.1 s41.2 h)
        · have h := Sat_pos c73 h
          refine r_aload_n dX11_byNight_76 1 rfl ?_
          refine r_iload dX11_byNight_77 4 rfl ?_
          refine r_aload_n dX11_byNight_79 1 rfl ?_
          obtain ⟨x80, e80, h⟩ := Sat_bind h
          refine r_getP fk_X11_79 rfl e80 dX11_byNight_80 ?_
          refine r_iload dX11_byNight_83 0 rfl ?_
          obtain ⟨x85, e85, h⟩ := Sat_bind h
          refine r_iaload e85 dX11_byNight_85 ?_
          refine r_aload_n dX11_byNight_86 1 rfl ?_
          obtain ⟨x87, e87, h⟩ := Sat_bind h
          refine r_getP fk_X11_17 rfl e87 dX11_byNight_87 ?_
          refine r_bipush (v := 8) dX11_byNight_90 (by decide) ?_
          obtain ⟨x92, e92, h⟩ := Sat_bind h
          refine r_iaload e92 dX11_byNight_92 ?_
          refine r_iconst (v := -1) dX11_byNight_93 (by decide) ?_
          refine r_ixor dX11_byNight_94 ?_
          refine r_iand dX11_byNight_95 ?_
          refine r_iload_n dX11_byNight_96 3 rfl ?_
          refine r_iconst (v := 3) dX11_byNight_97 (by decide) ?_
          refine r_iload dX11_byNight_98 0 rfl ?_
          obtain ⟨x100, e100, h⟩ := Sat_bind h
          refine r_cV (t := 12) [.int s41.1, .int (x85 &&& (x92 ^^^ (-1 : Int32))), .int l3_38, .int (3 : Int32), .int x55] [] (m_X11_learns a0_38 s41.1 (x85 &&& (x92 ^^^ (-1 : Int32))) l3_38 (3 : Int32) x55 s41.2 e100) ck_X11_learns lk_X11_346 in_X11_learns se_X11_learns (kd_of e100) ⟨rfl, by decide, by decide⟩ rfl rfl (Nat.le_of_ble_eq_true rfl) ⟨by decide, by decide⟩ ⟨Nat.zero_le _, Nat.zero_le _⟩ dX11_byNight_100 ?_
          exact r_sub [1, 2, 3, 4] rfl (J103 s41.1 x100 h)
  refine r_iload dX11_byNight_0 3 rfl ?_
  refine r_iconst (v := 1) dX11_byNight_2 (by decide) ?_
  refine r_iand dX11_byNight_3 ?_
  refine r_if_ne 8 dX11_byNight_4 (by decide) (fun c4 => ?_) (fun c4 => ?_)
  · have h := Sat_neg c4 h
    refine r_iconst (v := 0) dX11_byNight_8 (by decide) ?_
    refine r_istore (lv' := [(5, .int (0 : Int32)), (0, .ref a0), (1, .long l1), (3, .int l3), (4, .int l4)]) dX11_byNight_9 (by decide) rfl ?_
    refine r_sub (lv' := [(0, .ref a0), (1, .long l1), (3, .int l3), (5, .int (0 : Int32))]) [1, 2, 3, 0] rfl ?_
    refine whl_K (s0 := (((0 : Int32), μ) : Int32 × Mm)) (RR := fun (s11 : Int32 × Mm) => Rn_X11_byNight G (fun v μ' => v = none ∧ μ' = r) 11 [(0, .ref a0), (1, .long l1), (3, .int l3), (5, .int s11.1)] [] s11.2) ?_ (Sat_bindK h)
    intro s11 K11 hI11 hX11 h
    refine r_iload dX11_byNight_11 3 rfl ?_
    refine r_bipush (v := 8) dX11_byNight_13 (by decide) ?_
    refine r_icmp_ge 38 dX11_byNight_15 (by decide) (fun c15 => ?_) (fun c15 => ?_)
    · have h := Sat_pos c15 h
      have h := hX11 _ (Sat_some h)
      exact r_sub [0, 1, 2] rfl (J38 a0 l1 l3 s11.2 h)
    · have h := Sat_neg c15 h
      refine r_aload_n dX11_byNight_18 0 rfl ?_
      obtain ⟨x19, e19, h⟩ := Sat_bind h
      refine r_getP fk_X11_79 rfl e19 dX11_byNight_19 ?_
      refine r_iload dX11_byNight_22 3 rfl ?_
      refine r_aload_n dX11_byNight_24 0 rfl ?_
      obtain ⟨x25, e25, h⟩ := Sat_bind h
      refine r_getP fk_X11_76 rfl e25 dX11_byNight_25 ?_
      refine r_iload dX11_byNight_28 3 rfl ?_
      obtain ⟨x30, e30, h⟩ := Sat_bind h
      refine r_iaload e30 dX11_byNight_30 ?_
      obtain ⟨μ31, e31, h⟩ := Sat_bind h
      refine r_iastore e31 dX11_byNight_31 ?_
      obtain ⟨v32, e32, h⟩ := Sat_bind h
      refine r_iinc (j := 3) (v := v32) (lv' := [(5, .int v32), (0, .ref a0), (1, .long l1), (3, .int l3)]) dX11_byNight_32 rfl (iinc_v e32 (by decide)) (by decide) rfl ?_
      refine r_goto 11 dX11_byNight_35 (by decide) ?_
      exact r_sub [1, 2, 3, 0] rfl (hI11 _ (Sat_some h))
  · have h := Sat_pos c4 h
    exact r_vreturn rfl (by rw [← Sat_eq h]; exact ⟨rfl, rfl⟩) dX11_byNight_7
theorem dX11_forget_0 : decode cX11_forget 0 = .ok (.iconst 0, 1) := by decide +kernel
theorem dX11_forget_1 : decode cX11_forget 1 = .ok (.istore_n 1, 1) := by decide +kernel
theorem dX11_forget_2 : decode cX11_forget 2 = .ok (.iload_n 1, 1) := by decide +kernel
theorem dX11_forget_3 : decode cX11_forget 3 = .ok (.bipush 8, 2) := by decide +kernel
theorem dX11_forget_5 : decode cX11_forget 5 = .ok (.if_icmp .ge 16, 3) := by decide +kernel
theorem dX11_forget_8 : decode cX11_forget 8 = .ok (.aload_n 0, 1) := by decide +kernel
theorem dX11_forget_9 : decode cX11_forget 9 = .ok (.getfield 76, 3) := by decide +kernel
theorem dX11_forget_12 : decode cX11_forget 12 = .ok (.iload_n 1, 1) := by decide +kernel
theorem dX11_forget_13 : decode cX11_forget 13 = .ok (.iconst 0, 1) := by decide +kernel
theorem dX11_forget_14 : decode cX11_forget 14 = .ok (.iastore, 1) := by decide +kernel
theorem dX11_forget_15 : decode cX11_forget 15 = .ok (.iinc 1 1, 3) := by decide +kernel
theorem dX11_forget_18 : decode cX11_forget 18 = .ok (.goto (-16), 3) := by decide +kernel
theorem dX11_forget_21 : decode cX11_forget 21 = .ok (.aload_n 0, 1) := by decide +kernel
theorem dX11_forget_22 : decode cX11_forget 22 = .ok (.iconst (-1), 1) := by decide +kernel
theorem dX11_forget_23 : decode cX11_forget 23 = .ok (.putfield 328, 3) := by decide +kernel
theorem dX11_forget_26 : decode cX11_forget 26 = .ok (.aload_n 0, 1) := by decide +kernel
theorem dX11_forget_27 : decode cX11_forget 27 = .ok (.iconst (-1), 1) := by decide +kernel
theorem dX11_forget_28 : decode cX11_forget 28 = .ok (.putfield 331, 3) := by decide +kernel
theorem dX11_forget_31 : decode cX11_forget 31 = .ok (.aload_n 0, 1) := by decide +kernel
theorem dX11_forget_32 : decode cX11_forget 32 = .ok (.iconst (-1), 1) := by decide +kernel
theorem dX11_forget_33 : decode cX11_forget 33 = .ok (.putfield 334, 3) := by decide +kernel
theorem dX11_forget_36 : decode cX11_forget 36 = .ok (.return_, 1) := by decide +kernel
noncomputable def f_X11_forget_J21 (a0 : Nat) (μ : Mm) : Option Mm :=
  (pf_I 12 40 a0 (-1 : Int32) μ).bind fun μ23 => (pf_I 12 41 a0 (-1 : Int32) μ23).bind fun μ28 => (pf_I 12 42 a0 (-1 : Int32) μ28).bind fun μ33 => some μ33
noncomputable def f_X11_forget_L2 (a0 : Nat) (s2 : Int32 × Mm) : Option ((Int32 × Mm) ⊕ (Mm)) :=
  if (8 : Int32) ≤ s2.1 then some (.inr s2.2) else (gf_P 12 35 a0 s2.2).bind fun x9 => (pa_I x9 s2.1 (0 : Int32) s2.2).bind fun μ14 => (some (s2.1 + (1 : Int32))).bind fun v15 => some (.inl (v15, μ14))
noncomputable def f_X11_forget (a0 : Nat) (μ : Mm) : Option Mm :=
  if (mm_K μ a0).1 = 12 then (whl (f_X11_forget_L2 a0) ((0 : Int32), μ)).bind (fun b2 => f_X11_forget_J21 a0 b2) else none
abbrev Rn_X11_forget (G : Gv) (Q : Option Value → Mm → Prop) (pc : Nat) (lv : List (Nat × Value)) (st : List Value) (μ : Mm) : Prop := Rn G RX11 cX11_forget 2 none "forget" (rmd 0 0 0) (Zm G 0 0 Q) 0 0 pc lv st μ
set_option maxRecDepth 100000 in
set_option maxHeartbeats 4000000 in
theorem m_X11_forget {G : Gv} (a0 : Nat) (μ : Mm) {r : Mm} (hx : f_X11_forget a0 μ = some r) : Mt G yX11_forget cX11_forget 2 none 0 0 0 [.ref a0] μ (fun v μ' => v = none ∧ μ' = r) := by
  refine Mt.of (by decide) (Nat.le_of_ble_eq_true rfl) ?_
  show Rn_X11_forget G (fun v μ' => v = none ∧ μ' = r) 0 [(0, .ref a0)] [] μ
  obtain ⟨_, h⟩ := Sat_ifp (show Sat (f_X11_forget a0 μ) (fun x => x = r) from ⟨_, hx, rfl⟩)
  have J21 : ∀ (a0_21 : Nat) (μ_21 : Mm), Sat (f_X11_forget_J21 a0_21 μ_21) (fun x => x = r) → Rn_X11_forget G (fun v μ' => v = none ∧ μ' = r) 21 [(0, .ref a0_21)] [] μ_21 := by
    intro a0_21 μ_21 h
    refine r_aload_n dX11_forget_21 0 rfl ?_
    refine r_iconst (v := -1) dX11_forget_22 (by decide) ?_
    obtain ⟨μ23, e23, h⟩ := Sat_bind h
    refine r_putI fk_X11_328 rfl rfl e23 dX11_forget_23 ?_
    refine r_aload_n dX11_forget_26 0 rfl ?_
    refine r_iconst (v := -1) dX11_forget_27 (by decide) ?_
    obtain ⟨μ28, e28, h⟩ := Sat_bind h
    refine r_putI fk_X11_331 rfl rfl e28 dX11_forget_28 ?_
    refine r_aload_n dX11_forget_31 0 rfl ?_
    refine r_iconst (v := -1) dX11_forget_32 (by decide) ?_
    obtain ⟨μ33, e33, h⟩ := Sat_bind h
    refine r_putI fk_X11_334 rfl rfl e33 dX11_forget_33 ?_
    exact r_vreturn rfl (by rw [← Sat_eq h]; exact ⟨rfl, rfl⟩) dX11_forget_36
  refine r_iconst (v := 0) dX11_forget_0 (by decide) ?_
  refine r_istore_n (lv' := [(1, .int (0 : Int32)), (0, .ref a0)]) dX11_forget_1 rfl (by decide) rfl ?_
  refine r_sub (lv' := [(0, .ref a0), (1, .int (0 : Int32))]) [1, 0] rfl ?_
  refine whl_K (s0 := (((0 : Int32), μ) : Int32 × Mm)) (RR := fun (s2 : Int32 × Mm) => Rn_X11_forget G (fun v μ' => v = none ∧ μ' = r) 2 [(0, .ref a0), (1, .int s2.1)] [] s2.2) ?_ (Sat_bindK h)
  intro s2 K2 hI2 hX2 h
  refine r_iload_n dX11_forget_2 1 rfl ?_
  refine r_bipush (v := 8) dX11_forget_3 (by decide) ?_
  refine r_icmp_ge 21 dX11_forget_5 (by decide) (fun c5 => ?_) (fun c5 => ?_)
  · have h := Sat_pos c5 h
    have h := hX2 _ (Sat_some h)
    exact r_sub [0] rfl (J21 a0 s2.2 h)
  · have h := Sat_neg c5 h
    refine r_aload_n dX11_forget_8 0 rfl ?_
    obtain ⟨x9, e9, h⟩ := Sat_bind h
    refine r_getP fk_X11_76 rfl e9 dX11_forget_9 ?_
    refine r_iload_n dX11_forget_12 1 rfl ?_
    refine r_iconst (v := 0) dX11_forget_13 (by decide) ?_
    obtain ⟨μ14, e14, h⟩ := Sat_bind h
    refine r_iastore e14 dX11_forget_14 ?_
    obtain ⟨v15, e15, h⟩ := Sat_bind h
    refine r_iinc (j := 1) (v := v15) (lv' := [(1, .int v15), (0, .ref a0)]) dX11_forget_15 rfl (iinc_v e15 (by decide)) (by decide) rfl ?_
    refine r_goto 2 dX11_forget_18 (by decide) ?_
    exact r_sub [1, 0] rfl (hI2 _ (Sat_some h))
theorem dX11_manyKnow_0 : decode cX11_manyKnow 0 = .ok (.iconst 0, 1) := by decide +kernel
theorem dX11_manyKnow_1 : decode cX11_manyKnow 1 = .ok (.istore_n 2, 1) := by decide +kernel
theorem dX11_manyKnow_2 : decode cX11_manyKnow 2 = .ok (.iconst 0, 1) := by decide +kernel
theorem dX11_manyKnow_3 : decode cX11_manyKnow 3 = .ok (.istore_n 3, 1) := by decide +kernel
theorem dX11_manyKnow_4 : decode cX11_manyKnow 4 = .ok (.iload_n 3, 1) := by decide +kernel
theorem dX11_manyKnow_5 : decode cX11_manyKnow 5 = .ok (.aload_n 0, 1) := by decide +kernel
theorem dX11_manyKnow_6 : decode cX11_manyKnow 6 = .ok (.getfield 17, 3) := by decide +kernel
theorem dX11_manyKnow_9 : decode cX11_manyKnow 9 = .ok (.iconst 0, 1) := by decide +kernel
theorem dX11_manyKnow_10 : decode cX11_manyKnow 10 = .ok (.iaload, 1) := by decide +kernel
theorem dX11_manyKnow_11 : decode cX11_manyKnow 11 = .ok (.if_icmp .ge 22, 3) := by decide +kernel
theorem dX11_manyKnow_14 : decode cX11_manyKnow 14 = .ok (.iload_n 2, 1) := by decide +kernel
theorem dX11_manyKnow_15 : decode cX11_manyKnow 15 = .ok (.aload_n 0, 1) := by decide +kernel
theorem dX11_manyKnow_16 : decode cX11_manyKnow 16 = .ok (.getfield 76, 3) := by decide +kernel
theorem dX11_manyKnow_19 : decode cX11_manyKnow 19 = .ok (.iload_n 3, 1) := by decide +kernel
theorem dX11_manyKnow_20 : decode cX11_manyKnow 20 = .ok (.iaload, 1) := by decide +kernel
theorem dX11_manyKnow_21 : decode cX11_manyKnow 21 = .ok (.iload_n 1, 1) := by decide +kernel
theorem dX11_manyKnow_22 : decode cX11_manyKnow 22 = .ok (.ishr, 1) := by decide +kernel
theorem dX11_manyKnow_23 : decode cX11_manyKnow 23 = .ok (.iconst 1, 1) := by decide +kernel
theorem dX11_manyKnow_24 : decode cX11_manyKnow 24 = .ok (.iand, 1) := by decide +kernel
theorem dX11_manyKnow_25 : decode cX11_manyKnow 25 = .ok (.iadd, 1) := by decide +kernel
theorem dX11_manyKnow_26 : decode cX11_manyKnow 26 = .ok (.istore_n 2, 1) := by decide +kernel
theorem dX11_manyKnow_27 : decode cX11_manyKnow 27 = .ok (.iinc 3 1, 3) := by decide +kernel
theorem dX11_manyKnow_30 : decode cX11_manyKnow 30 = .ok (.goto (-26), 3) := by decide +kernel
theorem dX11_manyKnow_33 : decode cX11_manyKnow 33 = .ok (.iload_n 2, 1) := by decide +kernel
theorem dX11_manyKnow_34 : decode cX11_manyKnow 34 = .ok (.ireturn, 1) := by decide +kernel
noncomputable def f_X11_manyKnow_L4 (a0 : Nat) (l1 : Int32) (μ : Mm) (s4 : Int32 × Int32) : Option ((Int32 × Int32) ⊕ (Int32)) :=
  (gf_P 12 12 a0 μ).bind fun x6 => (ga_I x6 (0 : Int32) μ).bind fun x10 => if x10 ≤ s4.2 then some (.inr s4.1) else (gf_P 12 35 a0 μ).bind fun x16 => (ga_I x16 s4.2 μ).bind fun x20 => (some (s4.1 + ((x20 >>> (l1 &&& 31)) &&& (1 : Int32)))).bind fun v26 => (some (s4.2 + (1 : Int32))).bind fun v27 => some (.inl (v26, v27))
noncomputable def f_X11_manyKnow (a0 : Nat) (l1 : Int32) (μ : Mm) : Option Int32 :=
  if (mm_K μ a0).1 = 12 then (whl (f_X11_manyKnow_L4 a0 l1 μ) ((0 : Int32), (0 : Int32))).bind (fun b4 => some b4) else none
abbrev Rn_X11_manyKnow (G : Gv) (Q : Option Value → Mm → Prop) (pc : Nat) (lv : List (Nat × Value)) (st : List Value) (μ : Mm) : Prop := Rn G RX11 cX11_manyKnow 4 (some .int) "manyKnow" (rmd 0 0 0) (Zm G 0 0 Q) 0 0 pc lv st μ
set_option maxRecDepth 100000 in
set_option maxHeartbeats 4000000 in
theorem m_X11_manyKnow {G : Gv} (a0 : Nat) (l1 : Int32) (μ : Mm) {r : Int32} (hx : f_X11_manyKnow a0 l1 μ = some r) : Mt G yX11_manyKnow cX11_manyKnow 4 (some .int) 0 0 0 [.ref a0, .int l1] μ (fun v μ' => v = some (.int r) ∧ μ' = μ) := by
  refine Mt.of (by decide) (Nat.le_of_ble_eq_true rfl) ?_
  show Rn_X11_manyKnow G (fun v μ' => v = some (.int r) ∧ μ' = μ) 0 [(0, .ref a0), (1, .int l1)] [] μ
  obtain ⟨_, h⟩ := Sat_ifp (show Sat (f_X11_manyKnow a0 l1 μ) (fun x => x = r) from ⟨_, hx, rfl⟩)
  refine r_iconst (v := 0) dX11_manyKnow_0 (by decide) ?_
  refine r_istore_n (lv' := [(2, .int (0 : Int32)), (0, .ref a0), (1, .int l1)]) dX11_manyKnow_1 rfl (by decide) rfl ?_
  refine r_iconst (v := 0) dX11_manyKnow_2 (by decide) ?_
  refine r_istore_n (lv' := [(3, .int (0 : Int32)), (2, .int (0 : Int32)), (0, .ref a0), (1, .int l1)]) dX11_manyKnow_3 rfl (by decide) rfl ?_
  refine r_sub (lv' := [(0, .ref a0), (1, .int l1), (2, .int (0 : Int32)), (3, .int (0 : Int32))]) [2, 3, 1, 0] rfl ?_
  refine whl_K (s0 := (((0 : Int32), (0 : Int32)) : Int32 × Int32)) (RR := fun (s4 : Int32 × Int32) => Rn_X11_manyKnow G (fun v μ' => v = some (.int r) ∧ μ' = μ) 4 [(0, .ref a0), (1, .int l1), (2, .int s4.1), (3, .int s4.2)] [] μ) ?_ (Sat_bindK h)
  intro s4 K4 hI4 hX4 h
  refine r_iload_n dX11_manyKnow_4 3 rfl ?_
  refine r_aload_n dX11_manyKnow_5 0 rfl ?_
  obtain ⟨x6, e6, h⟩ := Sat_bind h
  refine r_getP fk_X11_17 rfl e6 dX11_manyKnow_6 ?_
  refine r_iconst (v := 0) dX11_manyKnow_9 (by decide) ?_
  obtain ⟨x10, e10, h⟩ := Sat_bind h
  refine r_iaload e10 dX11_manyKnow_10 ?_
  refine r_icmp_ge 33 dX11_manyKnow_11 (by decide) (fun c11 => ?_) (fun c11 => ?_)
  · have h := Sat_pos c11 h
    have h := hX4 _ (Sat_some h)
    refine r_iload_n dX11_manyKnow_33 2 rfl ?_
    exact r_ireturn rfl (by rw [← Sat_eq h]; exact ⟨rfl, rfl⟩) dX11_manyKnow_34
  · have h := Sat_neg c11 h
    refine r_iload_n dX11_manyKnow_14 2 rfl ?_
    refine r_aload_n dX11_manyKnow_15 0 rfl ?_
    obtain ⟨x16, e16, h⟩ := Sat_bind h
    refine r_getP fk_X11_76 rfl e16 dX11_manyKnow_16 ?_
    refine r_iload_n dX11_manyKnow_19 3 rfl ?_
    obtain ⟨x20, e20, h⟩ := Sat_bind h
    refine r_iaload e20 dX11_manyKnow_20 ?_
    refine r_iload_n dX11_manyKnow_21 1 rfl ?_
    refine r_ishr dX11_manyKnow_22 ?_
    refine r_iconst (v := 1) dX11_manyKnow_23 (by decide) ?_
    refine r_iand dX11_manyKnow_24 ?_
    refine r_iadd dX11_manyKnow_25 ?_
    obtain ⟨v26, e26, h⟩ := Sat_bind h
    refine r_topi (Option.some.inj e26) ?_
    refine r_istore_n (lv' := [(2, .int v26), (0, .ref a0), (1, .int l1), (3, .int s4.2)]) dX11_manyKnow_26 rfl (by decide) rfl ?_
    obtain ⟨v27, e27, h⟩ := Sat_bind h
    refine r_iinc (j := 3) (v := v27) (lv' := [(3, .int v27), (2, .int v26), (0, .ref a0), (1, .int l1)]) dX11_manyKnow_27 rfl (iinc_v e27 (by decide)) (by decide) rfl ?_
    refine r_goto 4 dX11_manyKnow_30 (by decide) ?_
    exact r_sub [2, 3, 1, 0] rfl (hI4 _ (Sat_some h))
theorem dX11_all_0 : decode cX11_all 0 = .ok (.aload_n 0, 1) := by decide +kernel
theorem dX11_all_1 : decode cX11_all 1 = .ok (.iload_n 1, 1) := by decide +kernel
theorem dX11_all_2 : decode cX11_all 2 = .ok (.invokevirtual 315, 3) := by decide +kernel
theorem dX11_all_5 : decode cX11_all 5 = .ok (.ifCond .eq 10, 3) := by decide +kernel
theorem dX11_all_8 : decode cX11_all 8 = .ok (.iload_n 2, 1) := by decide +kernel
theorem dX11_all_9 : decode cX11_all 9 = .ok (.invokestatic 366, 3) := by decide +kernel
theorem dX11_all_12 : decode cX11_all 12 = .ok (.ifCond .ne 6, 3) := by decide +kernel
theorem dX11_all_15 : decode cX11_all 15 = .ok (.bipush (-2), 2) := by decide +kernel
theorem dX11_all_17 : decode cX11_all 17 = .ok (.ireturn, 1) := by decide +kernel
theorem dX11_all_18 : decode cX11_all 18 = .ok (.aload_n 0, 1) := by decide +kernel
theorem dX11_all_19 : decode cX11_all 19 = .ok (.invokevirtual 353, 3) := by decide +kernel
theorem dX11_all_22 : decode cX11_all 22 = .ok (.iconst 0, 1) := by decide +kernel
theorem dX11_all_23 : decode cX11_all 23 = .ok (.istore_n 3, 1) := by decide +kernel
theorem dX11_all_24 : decode cX11_all 24 = .ok (.iload_n 3, 1) := by decide +kernel
theorem dX11_all_25 : decode cX11_all 25 = .ok (.bipush 28, 2) := by decide +kernel
theorem dX11_all_27 : decode cX11_all 27 = .ok (.if_icmp .ge 55, 3) := by decide +kernel
theorem dX11_all_30 : decode cX11_all 30 = .ok (.aload_n 0, 1) := by decide +kernel
theorem dX11_all_31 : decode cX11_all 31 = .ok (.aload_n 0, 1) := by decide +kernel
theorem dX11_all_32 : decode cX11_all 32 = .ok (.getfield 73, 3) := by decide +kernel
theorem dX11_all_35 : decode cX11_all 35 = .ok (.aload_n 0, 1) := by decide +kernel
theorem dX11_all_36 : decode cX11_all 36 = .ok (.getfield 241, 3) := by decide +kernel
theorem dX11_all_39 : decode cX11_all 39 = .ok (.laload, 1) := by decide +kernel
theorem dX11_all_40 : decode cX11_all 40 = .ok (.iload_n 3, 1) := by decide +kernel
theorem dX11_all_41 : decode cX11_all 41 = .ok (.iload_n 2, 1) := by decide +kernel
theorem dX11_all_42 : decode cX11_all 42 = .ok (.invokevirtual 356, 3) := by decide +kernel
theorem dX11_all_45 : decode cX11_all 45 = .ok (.aload_n 0, 1) := by decide +kernel
theorem dX11_all_46 : decode cX11_all 46 = .ok (.aload_n 0, 1) := by decide +kernel
theorem dX11_all_47 : decode cX11_all 47 = .ok (.getfield 73, 3) := by decide +kernel
theorem dX11_all_50 : decode cX11_all 50 = .ok (.aload_n 0, 1) := by decide +kernel
theorem dX11_all_51 : decode cX11_all 51 = .ok (.getfield 241, 3) := by decide +kernel
theorem dX11_all_54 : decode cX11_all 54 = .ok (.laload, 1) := by decide +kernel
theorem dX11_all_55 : decode cX11_all 55 = .ok (.iload_n 3, 1) := by decide +kernel
theorem dX11_all_56 : decode cX11_all 56 = .ok (.iload_n 2, 1) := by decide +kernel
theorem dX11_all_57 : decode cX11_all 57 = .ok (.invokevirtual 360, 3) := by decide +kernel
theorem dX11_all_60 : decode cX11_all 60 = .ok (.aload_n 0, 1) := by decide +kernel
theorem dX11_all_61 : decode cX11_all 61 = .ok (.iload_n 1, 1) := by decide +kernel
theorem dX11_all_62 : decode cX11_all 62 = .ok (.invokevirtual 373, 3) := by decide +kernel
theorem dX11_all_65 : decode cX11_all 65 = .ok (.aload_n 0, 1) := by decide +kernel
theorem dX11_all_66 : decode cX11_all 66 = .ok (.getfield 17, 3) := by decide +kernel
theorem dX11_all_69 : decode cX11_all 69 = .ok (.iconst 0, 1) := by decide +kernel
theorem dX11_all_70 : decode cX11_all 70 = .ok (.iaload, 1) := by decide +kernel
theorem dX11_all_71 : decode cX11_all 71 = .ok (.if_icmp .ne 5, 3) := by decide +kernel
theorem dX11_all_74 : decode cX11_all 74 = .ok (.iload_n 3, 1) := by decide +kernel
theorem dX11_all_75 : decode cX11_all 75 = .ok (.ireturn, 1) := by decide +kernel
theorem dX11_all_76 : decode cX11_all 76 = .ok (.iinc 3 1, 3) := by decide +kernel
theorem dX11_all_79 : decode cX11_all 79 = .ok (.goto (-55), 3) := by decide +kernel
theorem dX11_all_82 : decode cX11_all 82 = .ok (.iconst (-1), 1) := by decide +kernel
theorem dX11_all_83 : decode cX11_all 83 = .ok (.ireturn, 1) := by decide +kernel
noncomputable def f_X11_all_L24 (a0 : Nat) (l1 : Int32) (l2 : Int32) (s24 : Int32 × Mm) : Option ((Int32 × Mm) ⊕ ((Int32 × Mm) ⊕ (Mm))) :=
  if (28 : Int32) ≤ s24.1 then some (.inr (.inr s24.2)) else (gf_P 12 34 a0 s24.2).bind fun x32 => (gf_I 12 33 a0 s24.2).bind fun x36 => (ga_L x32 x36 s24.2).bind fun x39 => (f_X11_byDay a0 x39 s24.1 l2 s24.2).bind fun x42 => (gf_P 12 34 a0 x42).bind fun x47 => (gf_I 12 33 a0 x42).bind fun x51 => (ga_L x47 x51 x42).bind fun x54 => (f_X11_byNight a0 x54 s24.1 l2 x42).bind fun x57 => (f_X11_manyKnow a0 l1 x57).bind fun x62 => (gf_P 12 12 a0 x57).bind fun x66 => (ga_I x66 (0 : Int32) x57).bind fun x70 => if x62 = x70 then some (.inr (.inl (s24.1, x57))) else (some (s24.1 + (1 : Int32))).bind fun v76 => some (.inl (v76, x57))
noncomputable def f_X11_all (a0 : Nat) (l1 : Int32) (l2 : Int32) (μ : Mm) : Option (Int32 × Mm) :=
  if (mm_K μ a0).1 = 12 then (f_X11_isFact a0 l1 μ).bind fun x2 => if x2 = 0 then some ((-2 : Int32), μ) else (f_X11_areWays l2 μ).bind fun x9 => if x9 = 0 then some ((-2 : Int32), μ) else (f_X11_forget a0 μ).bind fun x19 => (whl (f_X11_all_L24 a0 l1 l2) ((0 : Int32), x19)).bind (sm (fun b24 => some (b24.1, b24.2)) (fun b24 => some ((-1 : Int32), b24))) else none
abbrev Rn_X11_all (G : Gv) (Q : Option Value → Mm → Prop) (pc : Nat) (lv : List (Nat × Value)) (st : List Value) (μ : Mm) : Prop := Rn G RX11 cX11_all 4 (some .int) "all" (rmd 3 0 0) (Zm G 0 0 Q) 0 0 pc lv st μ
set_option maxRecDepth 100000 in
set_option maxHeartbeats 4000000 in
theorem m_X11_all {G : Gv} (a0 : Nat) (l1 : Int32) (l2 : Int32) (μ : Mm) {r : (Int32 × Mm)} (hx : f_X11_all a0 l1 l2 μ = some r) : Mt G yX11_all cX11_all 4 (some .int) 3 0 0 [.ref a0, .int l1, .int l2] μ (fun v μ' => v = some (.int r.1) ∧ μ' = r.2) := by
  refine Mt.of (by decide) (Nat.le_of_ble_eq_true rfl) ?_
  show Rn_X11_all G (fun v μ' => v = some (.int r.1) ∧ μ' = r.2) 0 [(0, .ref a0), (1, .int l1), (2, .int l2)] [] μ
  obtain ⟨_, h⟩ := Sat_ifp (show Sat (f_X11_all a0 l1 l2 μ) (fun x => x = r) from ⟨_, hx, rfl⟩)
  refine r_aload_n dX11_all_0 0 rfl ?_
  refine r_iload_n dX11_all_1 1 rfl ?_
  obtain ⟨x2, e2, h⟩ := Sat_bind h
  refine r_cV (t := 12) [.int l1] [] (m_X11_isFact a0 l1 μ e2) ck_X11_isFact lk_X11_315 in_X11_isFact se_X11_isFact (kd_of e2) ⟨rfl, by decide, by decide⟩ rfl rfl (Nat.le_of_ble_eq_true rfl) ⟨by decide, by decide⟩ ⟨Nat.zero_le _, Nat.zero_le _⟩ dX11_all_2 ?_
  refine r_if_eq 15 dX11_all_5 (by decide) (fun c5 => ?_) (fun c5 => ?_)
  · have h := Sat_pos c5 h
    refine r_bipush (v := -2) dX11_all_15 (by decide) ?_
    exact r_ireturn rfl (by rw [← Sat_eq h]; exact ⟨rfl, rfl⟩) dX11_all_17
  · have h := Sat_neg c5 h
    refine r_iload_n dX11_all_8 2 rfl ?_
    obtain ⟨x9, e9, h⟩ := Sat_bind h
    refine r_cS [.int l2] [] (m_X11_areWays l2 μ e9) ck_X11_areWays lk_X11_366 st_X11_areWays rfl rfl (Nat.le_of_ble_eq_true rfl) ⟨by decide, by decide⟩ ⟨Nat.zero_le _, Nat.zero_le _⟩ dX11_all_9 ?_
    refine r_if_ne 18 dX11_all_12 (by decide) (fun c12 => ?_) (fun c12 => ?_)
    · have h := Sat_neg c12 h
      refine r_aload_n dX11_all_18 0 rfl ?_
      obtain ⟨x19, e19, h⟩ := Sat_bind h
      refine r_cV (t := 12) [] [] (m_X11_forget a0 μ e19) ck_X11_forget lk_X11_353 in_X11_forget se_X11_forget (kd_of e19) ⟨rfl, by decide, by decide⟩ rfl rfl (Nat.le_of_ble_eq_true rfl) ⟨by decide, by decide⟩ ⟨Nat.zero_le _, Nat.zero_le _⟩ dX11_all_19 ?_
      refine r_iconst (v := 0) dX11_all_22 (by decide) ?_
      refine r_istore_n (lv' := [(3, .int (0 : Int32)), (0, .ref a0), (1, .int l1), (2, .int l2)]) dX11_all_23 rfl (by decide) rfl ?_
      refine r_sub (lv' := [(0, .ref a0), (1, .int l1), (2, .int l2), (3, .int (0 : Int32))]) [1, 2, 3, 0] rfl ?_
      refine whl_K (s0 := (((0 : Int32), x19) : Int32 × Mm)) (RR := fun (s24 : Int32 × Mm) => Rn_X11_all G (fun v μ' => v = some (.int r.1) ∧ μ' = r.2) 24 [(0, .ref a0), (1, .int l1), (2, .int l2), (3, .int s24.1)] [] s24.2) ?_ (Sat_bindK h)
      intro s24 K24 hI24 hX24 h
      refine r_iload_n dX11_all_24 3 rfl ?_
      refine r_bipush (v := 28) dX11_all_25 (by decide) ?_
      refine r_icmp_ge 82 dX11_all_27 (by decide) (fun c27 => ?_) (fun c27 => ?_)
      · have h := Sat_pos c27 h
        have h := hX24 _ (Sat_some h)
        refine r_iconst (v := -1) dX11_all_82 (by decide) ?_
        exact r_ireturn rfl (by rw [← Sat_eq h]; exact ⟨rfl, rfl⟩) dX11_all_83
      · have h := Sat_neg c27 h
        refine r_aload_n dX11_all_30 0 rfl ?_
        refine r_aload_n dX11_all_31 0 rfl ?_
        obtain ⟨x32, e32, h⟩ := Sat_bind h
        refine r_getP fk_X11_73 rfl e32 dX11_all_32 ?_
        refine r_aload_n dX11_all_35 0 rfl ?_
        obtain ⟨x36, e36, h⟩ := Sat_bind h
        refine r_getI fk_X11_241 rfl e36 dX11_all_36 ?_
        obtain ⟨x39, e39, h⟩ := Sat_bind h
        refine r_laload e39 dX11_all_39 ?_
        refine r_iload_n dX11_all_40 3 rfl ?_
        refine r_iload_n dX11_all_41 2 rfl ?_
        obtain ⟨x42, e42, h⟩ := Sat_bind h
        refine r_cV (t := 12) [.long x39, .int s24.1, .int l2] [] (m_X11_byDay a0 x39 s24.1 l2 s24.2 e42) ck_X11_byDay lk_X11_356 in_X11_byDay se_X11_byDay (kd_of e42) ⟨rfl, by decide, by decide⟩ rfl rfl (Nat.le_of_ble_eq_true rfl) ⟨by decide, by decide⟩ ⟨Nat.zero_le _, Nat.zero_le _⟩ dX11_all_42 ?_
        refine r_aload_n dX11_all_45 0 rfl ?_
        refine r_aload_n dX11_all_46 0 rfl ?_
        obtain ⟨x47, e47, h⟩ := Sat_bind h
        refine r_getP fk_X11_73 rfl e47 dX11_all_47 ?_
        refine r_aload_n dX11_all_50 0 rfl ?_
        obtain ⟨x51, e51, h⟩ := Sat_bind h
        refine r_getI fk_X11_241 rfl e51 dX11_all_51 ?_
        obtain ⟨x54, e54, h⟩ := Sat_bind h
        refine r_laload e54 dX11_all_54 ?_
        refine r_iload_n dX11_all_55 3 rfl ?_
        refine r_iload_n dX11_all_56 2 rfl ?_
        obtain ⟨x57, e57, h⟩ := Sat_bind h
        refine r_cV (t := 12) [.long x54, .int s24.1, .int l2] [] (m_X11_byNight a0 x54 s24.1 l2 x42 e57) ck_X11_byNight lk_X11_360 in_X11_byNight se_X11_byNight (kd_of e57) ⟨rfl, by decide, by decide⟩ rfl rfl (Nat.le_of_ble_eq_true rfl) ⟨by decide, by decide⟩ ⟨Nat.zero_le _, Nat.zero_le _⟩ dX11_all_57 ?_
        refine r_aload_n dX11_all_60 0 rfl ?_
        refine r_iload_n dX11_all_61 1 rfl ?_
        obtain ⟨x62, e62, h⟩ := Sat_bind h
        refine r_cV (t := 12) [.int l1] [] (m_X11_manyKnow a0 l1 x57 e62) ck_X11_manyKnow lk_X11_373 in_X11_manyKnow se_X11_manyKnow (kd_of e62) ⟨rfl, by decide, by decide⟩ rfl rfl (Nat.le_of_ble_eq_true rfl) ⟨by decide, by decide⟩ ⟨Nat.zero_le _, Nat.zero_le _⟩ dX11_all_62 ?_
        refine r_aload_n dX11_all_65 0 rfl ?_
        obtain ⟨x66, e66, h⟩ := Sat_bind h
        refine r_getP fk_X11_17 rfl e66 dX11_all_66 ?_
        refine r_iconst (v := 0) dX11_all_69 (by decide) ?_
        obtain ⟨x70, e70, h⟩ := Sat_bind h
        refine r_iaload e70 dX11_all_70 ?_
        refine r_icmp_ne 76 dX11_all_71 (by decide) (fun c71 => ?_) (fun c71 => ?_)
        · have h := Sat_neg c71 h
          obtain ⟨v76, e76, h⟩ := Sat_bind h
          refine r_iinc (j := 3) (v := v76) (lv' := [(3, .int v76), (0, .ref a0), (1, .int l1), (2, .int l2)]) dX11_all_76 rfl (iinc_v e76 (by decide)) (by decide) rfl ?_
          refine r_goto 24 dX11_all_79 (by decide) ?_
          exact r_sub [1, 2, 3, 0] rfl (hI24 _ (Sat_some h))
        · have h := Sat_pos c71 h
          have h := hX24 _ (Sat_some h)
          refine r_iload_n dX11_all_74 3 rfl ?_
          exact r_ireturn rfl (by rw [← Sat_eq h]; exact ⟨rfl, rfl⟩) dX11_all_75
    · have h := Sat_pos c12 h
      refine r_bipush (v := -2) dX11_all_15 (by decide) ?_
      exact r_ireturn rfl (by rw [← Sat_eq h]; exact ⟨rfl, rfl⟩) dX11_all_17
theorem dX11_allDay_0 : decode cX11_allDay 0 = .ok (.aload_n 0, 1) := by decide +kernel
theorem dX11_allDay_1 : decode cX11_allDay 1 = .ok (.invokevirtual 353, 3) := by decide +kernel
theorem dX11_allDay_4 : decode cX11_allDay 4 = .ok (.iconst 0, 1) := by decide +kernel
theorem dX11_allDay_5 : decode cX11_allDay 5 = .ok (.istore 4, 2) := by decide +kernel
theorem dX11_allDay_7 : decode cX11_allDay 7 = .ok (.iload 4, 2) := by decide +kernel
theorem dX11_allDay_9 : decode cX11_allDay 9 = .ok (.bipush 28, 2) := by decide +kernel
theorem dX11_allDay_11 : decode cX11_allDay 11 = .ok (.if_icmp .ge 44, 3) := by decide +kernel
theorem dX11_allDay_14 : decode cX11_allDay 14 = .ok (.aload_n 0, 1) := by decide +kernel
theorem dX11_allDay_15 : decode cX11_allDay 15 = .ok (.lload_n 1, 1) := by decide +kernel
theorem dX11_allDay_16 : decode cX11_allDay 16 = .ok (.iload 4, 2) := by decide +kernel
theorem dX11_allDay_18 : decode cX11_allDay 18 = .ok (.bipush 7, 2) := by decide +kernel
theorem dX11_allDay_20 : decode cX11_allDay 20 = .ok (.invokevirtual 356, 3) := by decide +kernel
theorem dX11_allDay_23 : decode cX11_allDay 23 = .ok (.aload_n 0, 1) := by decide +kernel
theorem dX11_allDay_24 : decode cX11_allDay 24 = .ok (.lload_n 1, 1) := by decide +kernel
theorem dX11_allDay_25 : decode cX11_allDay 25 = .ok (.iload 4, 2) := by decide +kernel
theorem dX11_allDay_27 : decode cX11_allDay 27 = .ok (.bipush 7, 2) := by decide +kernel
theorem dX11_allDay_29 : decode cX11_allDay 29 = .ok (.invokevirtual 360, 3) := by decide +kernel
theorem dX11_allDay_32 : decode cX11_allDay 32 = .ok (.aload_n 0, 1) := by decide +kernel
theorem dX11_allDay_33 : decode cX11_allDay 33 = .ok (.iload_n 3, 1) := by decide +kernel
theorem dX11_allDay_34 : decode cX11_allDay 34 = .ok (.invokevirtual 373, 3) := by decide +kernel
theorem dX11_allDay_37 : decode cX11_allDay 37 = .ok (.aload_n 0, 1) := by decide +kernel
theorem dX11_allDay_38 : decode cX11_allDay 38 = .ok (.getfield 17, 3) := by decide +kernel
theorem dX11_allDay_41 : decode cX11_allDay 41 = .ok (.iconst 0, 1) := by decide +kernel
theorem dX11_allDay_42 : decode cX11_allDay 42 = .ok (.iaload, 1) := by decide +kernel
theorem dX11_allDay_43 : decode cX11_allDay 43 = .ok (.if_icmp .ne 6, 3) := by decide +kernel
theorem dX11_allDay_46 : decode cX11_allDay 46 = .ok (.iload 4, 2) := by decide +kernel
theorem dX11_allDay_48 : decode cX11_allDay 48 = .ok (.ireturn, 1) := by decide +kernel
theorem dX11_allDay_49 : decode cX11_allDay 49 = .ok (.iinc 4 1, 3) := by decide +kernel
theorem dX11_allDay_52 : decode cX11_allDay 52 = .ok (.goto (-45), 3) := by decide +kernel
theorem dX11_allDay_55 : decode cX11_allDay 55 = .ok (.bipush 28, 2) := by decide +kernel
theorem dX11_allDay_57 : decode cX11_allDay 57 = .ok (.ireturn, 1) := by decide +kernel
noncomputable def f_X11_allDay_L7 (a0 : Nat) (l1 : Int64) (l3 : Int32) (s7 : Int32 × Mm) : Option ((Int32 × Mm) ⊕ ((Int32 × Mm) ⊕ (Mm))) :=
  if (28 : Int32) ≤ s7.1 then some (.inr (.inr s7.2)) else (f_X11_byDay a0 l1 s7.1 (7 : Int32) s7.2).bind fun x20 => (f_X11_byNight a0 l1 s7.1 (7 : Int32) x20).bind fun x29 => (f_X11_manyKnow a0 l3 x29).bind fun x34 => (gf_P 12 12 a0 x29).bind fun x38 => (ga_I x38 (0 : Int32) x29).bind fun x42 => if x34 = x42 then some (.inr (.inl (s7.1, x29))) else (some (s7.1 + (1 : Int32))).bind fun v49 => some (.inl (v49, x29))
noncomputable def f_X11_allDay (a0 : Nat) (l1 : Int64) (l3 : Int32) (μ : Mm) : Option (Int32 × Mm) :=
  if (mm_K μ a0).1 = 12 then (f_X11_forget a0 μ).bind fun x1 => (whl (f_X11_allDay_L7 a0 l1 l3) ((0 : Int32), x1)).bind (sm (fun b7 => some (b7.1, b7.2)) (fun b7 => some ((28 : Int32), b7))) else none
abbrev Rn_X11_allDay (G : Gv) (Q : Option Value → Mm → Prop) (pc : Nat) (lv : List (Nat × Value)) (st : List Value) (μ : Mm) : Prop := Rn G RX11 cX11_allDay 5 (some .int) "allDay" (rmd 3 0 0) (Zm G 0 0 Q) 0 0 pc lv st μ
set_option maxRecDepth 100000 in
set_option maxHeartbeats 4000000 in
theorem m_X11_allDay {G : Gv} (a0 : Nat) (l1 : Int64) (l3 : Int32) (μ : Mm) {r : (Int32 × Mm)} (hx : f_X11_allDay a0 l1 l3 μ = some r) : Mt G yX11_allDay cX11_allDay 5 (some .int) 3 0 0 [.ref a0, .long l1, .int l3] μ (fun v μ' => v = some (.int r.1) ∧ μ' = r.2) := by
  refine Mt.of (by decide) (Nat.le_of_ble_eq_true rfl) ?_
  show Rn_X11_allDay G (fun v μ' => v = some (.int r.1) ∧ μ' = r.2) 0 [(0, .ref a0), (1, .long l1), (3, .int l3)] [] μ
  obtain ⟨_, h⟩ := Sat_ifp (show Sat (f_X11_allDay a0 l1 l3 μ) (fun x => x = r) from ⟨_, hx, rfl⟩)
  refine r_aload_n dX11_allDay_0 0 rfl ?_
  obtain ⟨x1, e1, h⟩ := Sat_bind h
  refine r_cV (t := 12) [] [] (m_X11_forget a0 μ e1) ck_X11_forget lk_X11_353 in_X11_forget se_X11_forget (kd_of e1) ⟨rfl, by decide, by decide⟩ rfl rfl (Nat.le_of_ble_eq_true rfl) ⟨by decide, by decide⟩ ⟨Nat.zero_le _, Nat.zero_le _⟩ dX11_allDay_1 ?_
  refine r_iconst (v := 0) dX11_allDay_4 (by decide) ?_
  refine r_istore (lv' := [(4, .int (0 : Int32)), (0, .ref a0), (1, .long l1), (3, .int l3)]) dX11_allDay_5 (by decide) rfl ?_
  refine r_sub (lv' := [(0, .ref a0), (1, .long l1), (3, .int l3), (4, .int (0 : Int32))]) [1, 2, 3, 0] rfl ?_
  refine whl_K (s0 := (((0 : Int32), x1) : Int32 × Mm)) (RR := fun (s7 : Int32 × Mm) => Rn_X11_allDay G (fun v μ' => v = some (.int r.1) ∧ μ' = r.2) 7 [(0, .ref a0), (1, .long l1), (3, .int l3), (4, .int s7.1)] [] s7.2) ?_ (Sat_bindK h)
  intro s7 K7 hI7 hX7 h
  refine r_iload dX11_allDay_7 3 rfl ?_
  refine r_bipush (v := 28) dX11_allDay_9 (by decide) ?_
  refine r_icmp_ge 55 dX11_allDay_11 (by decide) (fun c11 => ?_) (fun c11 => ?_)
  · have h := Sat_pos c11 h
    have h := hX7 _ (Sat_some h)
    refine r_bipush (v := 28) dX11_allDay_55 (by decide) ?_
    exact r_ireturn rfl (by rw [← Sat_eq h]; exact ⟨rfl, rfl⟩) dX11_allDay_57
  · have h := Sat_neg c11 h
    refine r_aload_n dX11_allDay_14 0 rfl ?_
    refine r_lload_n dX11_allDay_15 1 rfl ?_
    refine r_iload dX11_allDay_16 3 rfl ?_
    refine r_bipush (v := 7) dX11_allDay_18 (by decide) ?_
    obtain ⟨x20, e20, h⟩ := Sat_bind h
    refine r_cV (t := 12) [.long l1, .int s7.1, .int (7 : Int32)] [] (m_X11_byDay a0 l1 s7.1 (7 : Int32) s7.2 e20) ck_X11_byDay lk_X11_356 in_X11_byDay se_X11_byDay (kd_of e20) ⟨rfl, by decide, by decide⟩ rfl rfl (Nat.le_of_ble_eq_true rfl) ⟨by decide, by decide⟩ ⟨Nat.zero_le _, Nat.zero_le _⟩ dX11_allDay_20 ?_
    refine r_aload_n dX11_allDay_23 0 rfl ?_
    refine r_lload_n dX11_allDay_24 1 rfl ?_
    refine r_iload dX11_allDay_25 3 rfl ?_
    refine r_bipush (v := 7) dX11_allDay_27 (by decide) ?_
    obtain ⟨x29, e29, h⟩ := Sat_bind h
    refine r_cV (t := 12) [.long l1, .int s7.1, .int (7 : Int32)] [] (m_X11_byNight a0 l1 s7.1 (7 : Int32) x20 e29) ck_X11_byNight lk_X11_360 in_X11_byNight se_X11_byNight (kd_of e29) ⟨rfl, by decide, by decide⟩ rfl rfl (Nat.le_of_ble_eq_true rfl) ⟨by decide, by decide⟩ ⟨Nat.zero_le _, Nat.zero_le _⟩ dX11_allDay_29 ?_
    refine r_aload_n dX11_allDay_32 0 rfl ?_
    refine r_iload_n dX11_allDay_33 2 rfl ?_
    obtain ⟨x34, e34, h⟩ := Sat_bind h
    refine r_cV (t := 12) [.int l3] [] (m_X11_manyKnow a0 l3 x29 e34) ck_X11_manyKnow lk_X11_373 in_X11_manyKnow se_X11_manyKnow (kd_of e34) ⟨rfl, by decide, by decide⟩ rfl rfl (Nat.le_of_ble_eq_true rfl) ⟨by decide, by decide⟩ ⟨Nat.zero_le _, Nat.zero_le _⟩ dX11_allDay_34 ?_
    refine r_aload_n dX11_allDay_37 0 rfl ?_
    obtain ⟨x38, e38, h⟩ := Sat_bind h
    refine r_getP fk_X11_17 rfl e38 dX11_allDay_38 ?_
    refine r_iconst (v := 0) dX11_allDay_41 (by decide) ?_
    obtain ⟨x42, e42, h⟩ := Sat_bind h
    refine r_iaload e42 dX11_allDay_42 ?_
    refine r_icmp_ne 49 dX11_allDay_43 (by decide) (fun c43 => ?_) (fun c43 => ?_)
    · have h := Sat_neg c43 h
      obtain ⟨v49, e49, h⟩ := Sat_bind h
      refine r_iinc (j := 3) (v := v49) (lv' := [(4, .int v49), (0, .ref a0), (1, .long l1), (3, .int l3)]) dX11_allDay_49 rfl (iinc_v e49 (by decide)) (by decide) rfl ?_
      refine r_goto 7 dX11_allDay_52 (by decide) ?_
      exact r_sub [1, 2, 3, 0] rfl (hI7 _ (Sat_some h))
    · have h := Sat_pos c43 h
      have h := hX7 _ (Sat_some h)
      refine r_iload dX11_allDay_46 3 rfl ?_
      exact r_ireturn rfl (by rw [← Sat_eq h]; exact ⟨rfl, rfl⟩) dX11_allDay_48
theorem dX11_isFitting_0 : decode cX11_isFitting 0 = .ok (.aload_n 0, 1) := by decide +kernel
theorem dX11_isFitting_1 : decode cX11_isFitting 1 = .ok (.getfield 115, 3) := by decide +kernel
theorem dX11_isFitting_4 : decode cX11_isFitting 4 = .ok (.iload_n 1, 1) := by decide +kernel
theorem dX11_isFitting_5 : decode cX11_isFitting 5 = .ok (.bipush 64, 2) := by decide +kernel
theorem dX11_isFitting_7 : decode cX11_isFitting 7 = .ok (.idiv, 1) := by decide +kernel
theorem dX11_isFitting_8 : decode cX11_isFitting 8 = .ok (.laload, 1) := by decide +kernel
theorem dX11_isFitting_9 : decode cX11_isFitting 9 = .ok (.iload_n 1, 1) := by decide +kernel
theorem dX11_isFitting_10 : decode cX11_isFitting 10 = .ok (.bipush 64, 2) := by decide +kernel
theorem dX11_isFitting_12 : decode cX11_isFitting 12 = .ok (.irem, 1) := by decide +kernel
theorem dX11_isFitting_13 : decode cX11_isFitting 13 = .ok (.lshr, 1) := by decide +kernel
theorem dX11_isFitting_14 : decode cX11_isFitting 14 = .ok (.lconst 1, 1) := by decide +kernel
theorem dX11_isFitting_15 : decode cX11_isFitting 15 = .ok (.land, 1) := by decide +kernel
theorem dX11_isFitting_16 : decode cX11_isFitting 16 = .ok (.lconst 1, 1) := by decide +kernel
theorem dX11_isFitting_17 : decode cX11_isFitting 17 = .ok (.lcmp, 1) := by decide +kernel
theorem dX11_isFitting_18 : decode cX11_isFitting 18 = .ok (.ifCond .ne 7, 3) := by decide +kernel
theorem dX11_isFitting_21 : decode cX11_isFitting 21 = .ok (.iconst 1, 1) := by decide +kernel
theorem dX11_isFitting_22 : decode cX11_isFitting 22 = .ok (.goto 4, 3) := by decide +kernel
theorem dX11_isFitting_25 : decode cX11_isFitting 25 = .ok (.iconst 0, 1) := by decide +kernel
theorem dX11_isFitting_26 : decode cX11_isFitting 26 = .ok (.ireturn, 1) := by decide +kernel
noncomputable def f_X11_isFitting (a0 : Nat) (l1 : Int32) (μ : Mm) : Option Int32 :=
  if (mm_K μ a0).1 = 12 then (gf_P 12 57 a0 μ).bind fun x1 => (ga_L x1 (l1 / (64 : Int32)) μ).bind fun x8 => if (lg_cmp ((x8 >>> ((l1 - l1 / (64 : Int32) * (64 : Int32)).toInt64 &&& 63)) &&& (1 : Int64)) (1 : Int64)) = 0 then some (1 : Int32) else some (0 : Int32) else none
abbrev Rn_X11_isFitting (G : Gv) (Q : Option Value → Mm → Prop) (pc : Nat) (lv : List (Nat × Value)) (st : List Value) (μ : Mm) : Prop := Rn G RX11 cX11_isFitting 2 (some .boolean) "isFitting" (rmd 0 0 0) (Zm G 0 0 Q) 0 0 pc lv st μ
set_option maxRecDepth 100000 in
set_option maxHeartbeats 4000000 in
theorem m_X11_isFitting {G : Gv} (a0 : Nat) (l1 : Int32) (μ : Mm) {r : Int32} (hx : f_X11_isFitting a0 l1 μ = some r) : Mt G yX11_isFitting cX11_isFitting 2 (some .boolean) 0 0 0 [.ref a0, .int l1] μ (fun v μ' => v = some (.int r) ∧ μ' = μ) := by
  refine Mt.of (by decide) (Nat.le_of_ble_eq_true rfl) ?_
  show Rn_X11_isFitting G (fun v μ' => v = some (.int r) ∧ μ' = μ) 0 [(0, .ref a0), (1, .int l1)] [] μ
  obtain ⟨_, h⟩ := Sat_ifp (show Sat (f_X11_isFitting a0 l1 μ) (fun x => x = r) from ⟨_, hx, rfl⟩)
  refine r_aload_n dX11_isFitting_0 0 rfl ?_
  obtain ⟨x1, e1, h⟩ := Sat_bind h
  refine r_getP fk_X11_115 rfl e1 dX11_isFitting_1 ?_
  refine r_iload_n dX11_isFitting_4 1 rfl ?_
  refine r_bipush (v := 64) dX11_isFitting_5 (by decide) ?_
  refine r_idiv dX11_isFitting_7 (by decide) ?_
  obtain ⟨x8, e8, h⟩ := Sat_bind h
  refine r_laload e8 dX11_isFitting_8 ?_
  refine r_iload_n dX11_isFitting_9 1 rfl ?_
  refine r_bipush (v := 64) dX11_isFitting_10 (by decide) ?_
  refine r_irem dX11_isFitting_12 (by decide) ?_
  refine r_lshr dX11_isFitting_13 ?_
  refine r_lconst (v := 1) dX11_isFitting_14 (by decide) ?_
  refine r_land dX11_isFitting_15 ?_
  refine r_lconst (v := 1) dX11_isFitting_16 (by decide) ?_
  refine r_lcmp dX11_isFitting_17 ?_
  refine r_if_ne 25 dX11_isFitting_18 (by decide) (fun c18 => ?_) (fun c18 => ?_)
  · have h := Sat_neg c18 h
    refine r_iconst (v := 0) dX11_isFitting_25 (by decide) ?_
    exact r_zreturn rfl (by decide) (by rw [← Sat_eq h]; exact ⟨rfl, rfl⟩) dX11_isFitting_26
  · have h := Sat_pos c18 h
    refine r_iconst (v := 1) dX11_isFitting_21 (by decide) ?_
    refine r_goto 26 dX11_isFitting_22 (by decide) ?_
    exact r_zreturn rfl (by decide) (by rw [← Sat_eq h]; exact ⟨rfl, rfl⟩) dX11_isFitting_26
theorem dX11_countFits_0 : decode cX11_countFits 0 = .ok (.iconst 0, 1) := by decide +kernel
theorem dX11_countFits_1 : decode cX11_countFits 1 = .ok (.istore_n 1, 1) := by decide +kernel
theorem dX11_countFits_2 : decode cX11_countFits 2 = .ok (.iload_n 1, 1) := by decide +kernel
theorem dX11_countFits_3 : decode cX11_countFits 3 = .ok (.sipush 2688, 3) := by decide +kernel
theorem dX11_countFits_6 : decode cX11_countFits 6 = .ok (.if_icmp .ge 16, 3) := by decide +kernel
theorem dX11_countFits_9 : decode cX11_countFits 9 = .ok (.aload_n 0, 1) := by decide +kernel
theorem dX11_countFits_10 : decode cX11_countFits 10 = .ok (.getfield 118, 3) := by decide +kernel
theorem dX11_countFits_13 : decode cX11_countFits 13 = .ok (.iload_n 1, 1) := by decide +kernel
theorem dX11_countFits_14 : decode cX11_countFits 14 = .ok (.iconst 0, 1) := by decide +kernel
theorem dX11_countFits_15 : decode cX11_countFits 15 = .ok (.iastore, 1) := by decide +kernel
theorem dX11_countFits_16 : decode cX11_countFits 16 = .ok (.iinc 1 1, 3) := by decide +kernel
theorem dX11_countFits_19 : decode cX11_countFits 19 = .ok (.goto (-17), 3) := by decide +kernel
theorem dX11_countFits_22 : decode cX11_countFits 22 = .ok (.iconst 0, 1) := by decide +kernel
theorem dX11_countFits_23 : decode cX11_countFits 23 = .ok (.istore_n 1, 1) := by decide +kernel
theorem dX11_countFits_24 : decode cX11_countFits 24 = .ok (.iload_n 1, 1) := by decide +kernel
theorem dX11_countFits_25 : decode cX11_countFits 25 = .ok (.aload_n 0, 1) := by decide +kernel
theorem dX11_countFits_26 : decode cX11_countFits 26 = .ok (.getfield 234, 3) := by decide +kernel
theorem dX11_countFits_29 : decode cX11_countFits 29 = .ok (.if_icmp .ge 133, 3) := by decide +kernel
theorem dX11_countFits_32 : decode cX11_countFits 32 = .ok (.aload_n 0, 1) := by decide +kernel
theorem dX11_countFits_33 : decode cX11_countFits 33 = .ok (.iload_n 1, 1) := by decide +kernel
theorem dX11_countFits_34 : decode cX11_countFits 34 = .ok (.invokevirtual 395, 3) := by decide +kernel
theorem dX11_countFits_37 : decode cX11_countFits 37 = .ok (.ifCond .ne 6, 3) := by decide +kernel
theorem dX11_countFits_40 : decode cX11_countFits 40 = .ok (.goto 116, 3) := by decide +kernel
theorem dX11_countFits_43 : decode cX11_countFits 43 = .ok (.aload_n 0, 1) := by decide +kernel
theorem dX11_countFits_44 : decode cX11_countFits 44 = .ok (.invokevirtual 353, 3) := by decide +kernel
theorem dX11_countFits_47 : decode cX11_countFits 47 = .ok (.iconst 0, 1) := by decide +kernel
theorem dX11_countFits_48 : decode cX11_countFits 48 = .ok (.istore_n 2, 1) := by decide +kernel
theorem dX11_countFits_49 : decode cX11_countFits 49 = .ok (.iload_n 2, 1) := by decide +kernel
theorem dX11_countFits_50 : decode cX11_countFits 50 = .ok (.bipush 28, 2) := by decide +kernel
theorem dX11_countFits_52 : decode cX11_countFits 52 = .ok (.if_icmp .ge 104, 3) := by decide +kernel
theorem dX11_countFits_55 : decode cX11_countFits 55 = .ok (.aload_n 0, 1) := by decide +kernel
theorem dX11_countFits_56 : decode cX11_countFits 56 = .ok (.aload_n 0, 1) := by decide +kernel
theorem dX11_countFits_57 : decode cX11_countFits 57 = .ok (.getfield 73, 3) := by decide +kernel
theorem dX11_countFits_60 : decode cX11_countFits 60 = .ok (.iload_n 1, 1) := by decide +kernel
theorem dX11_countFits_61 : decode cX11_countFits 61 = .ok (.laload, 1) := by decide +kernel
theorem dX11_countFits_62 : decode cX11_countFits 62 = .ok (.iload_n 2, 1) := by decide +kernel
theorem dX11_countFits_63 : decode cX11_countFits 63 = .ok (.bipush 7, 2) := by decide +kernel
theorem dX11_countFits_65 : decode cX11_countFits 65 = .ok (.invokevirtual 356, 3) := by decide +kernel
theorem dX11_countFits_68 : decode cX11_countFits 68 = .ok (.iconst 0, 1) := by decide +kernel
theorem dX11_countFits_69 : decode cX11_countFits 69 = .ok (.istore_n 3, 1) := by decide +kernel
theorem dX11_countFits_70 : decode cX11_countFits 70 = .ok (.iload_n 3, 1) := by decide +kernel
theorem dX11_countFits_71 : decode cX11_countFits 71 = .ok (.aload_n 0, 1) := by decide +kernel
theorem dX11_countFits_72 : decode cX11_countFits 72 = .ok (.getfield 17, 3) := by decide +kernel
theorem dX11_countFits_75 : decode cX11_countFits 75 = .ok (.iconst 0, 1) := by decide +kernel
theorem dX11_countFits_76 : decode cX11_countFits 76 = .ok (.iaload, 1) := by decide +kernel
theorem dX11_countFits_77 : decode cX11_countFits 77 = .ok (.if_icmp .ge 60, 3) := by decide +kernel
theorem dX11_countFits_80 : decode cX11_countFits 80 = .ok (.iconst 0, 1) := by decide +kernel
theorem dX11_countFits_81 : decode cX11_countFits 81 = .ok (.istore 4, 2) := by decide +kernel
theorem dX11_countFits_83 : decode cX11_countFits 83 = .ok (.iload 4, 2) := by decide +kernel
theorem dX11_countFits_85 : decode cX11_countFits 85 = .ok (.aload_n 0, 1) := by decide +kernel
theorem dX11_countFits_86 : decode cX11_countFits 86 = .ok (.getfield 17, 3) := by decide +kernel
theorem dX11_countFits_89 : decode cX11_countFits 89 = .ok (.iconst 1, 1) := by decide +kernel
theorem dX11_countFits_90 : decode cX11_countFits 90 = .ok (.iaload, 1) := by decide +kernel
theorem dX11_countFits_91 : decode cX11_countFits 91 = .ok (.if_icmp .ge 40, 3) := by decide +kernel
theorem dX11_countFits_94 : decode cX11_countFits 94 = .ok (.aload_n 0, 1) := by decide +kernel
theorem dX11_countFits_95 : decode cX11_countFits 95 = .ok (.getfield 118, 3) := by decide +kernel
theorem dX11_countFits_98 : decode cX11_countFits 98 = .ok (.bipush 12, 2) := by decide +kernel
theorem dX11_countFits_100 : decode cX11_countFits 100 = .ok (.iload_n 3, 1) := by decide +kernel
theorem dX11_countFits_101 : decode cX11_countFits 101 = .ok (.imul, 1) := by decide +kernel
theorem dX11_countFits_102 : decode cX11_countFits 102 = .ok (.iload 4, 2) := by decide +kernel
theorem dX11_countFits_104 : decode cX11_countFits 104 = .ok (.iadd, 1) := by decide +kernel
theorem dX11_countFits_105 : decode cX11_countFits 105 = .ok (.bipush 28, 2) := by decide +kernel
theorem dX11_countFits_107 : decode cX11_countFits 107 = .ok (.imul, 1) := by decide +kernel
theorem dX11_countFits_108 : decode cX11_countFits 108 = .ok (.iload_n 2, 1) := by decide +kernel
theorem dX11_countFits_109 : decode cX11_countFits 109 = .ok (.iadd, 1) := by decide +kernel
theorem dX11_countFits_110 : decode cX11_countFits 110 = .ok (.dup2, 1) := by decide +kernel
theorem dX11_countFits_111 : decode cX11_countFits 111 = .ok (.iaload, 1) := by decide +kernel
theorem dX11_countFits_112 : decode cX11_countFits 112 = .ok (.aload_n 0, 1) := by decide +kernel
theorem dX11_countFits_113 : decode cX11_countFits 113 = .ok (.getfield 76, 3) := by decide +kernel
theorem dX11_countFits_116 : decode cX11_countFits 116 = .ok (.iload_n 3, 1) := by decide +kernel
theorem dX11_countFits_117 : decode cX11_countFits 117 = .ok (.iaload, 1) := by decide +kernel
theorem dX11_countFits_118 : decode cX11_countFits 118 = .ok (.iload 4, 2) := by decide +kernel
theorem dX11_countFits_120 : decode cX11_countFits 120 = .ok (.ishr, 1) := by decide +kernel
theorem dX11_countFits_121 : decode cX11_countFits 121 = .ok (.iconst 1, 1) := by decide +kernel
theorem dX11_countFits_122 : decode cX11_countFits 122 = .ok (.iand, 1) := by decide +kernel
theorem dX11_countFits_123 : decode cX11_countFits 123 = .ok (.iadd, 1) := by decide +kernel
theorem dX11_countFits_124 : decode cX11_countFits 124 = .ok (.iastore, 1) := by decide +kernel
theorem dX11_countFits_125 : decode cX11_countFits 125 = .ok (.iinc 4 1, 3) := by decide +kernel
theorem dX11_countFits_128 : decode cX11_countFits 128 = .ok (.goto (-45), 3) := by decide +kernel
theorem dX11_countFits_131 : decode cX11_countFits 131 = .ok (.iinc 3 1, 3) := by decide +kernel
theorem dX11_countFits_134 : decode cX11_countFits 134 = .ok (.goto (-64), 3) := by decide +kernel
theorem dX11_countFits_137 : decode cX11_countFits 137 = .ok (.aload_n 0, 1) := by decide +kernel
theorem dX11_countFits_138 : decode cX11_countFits 138 = .ok (.aload_n 0, 1) := by decide +kernel
theorem dX11_countFits_139 : decode cX11_countFits 139 = .ok (.getfield 73, 3) := by decide +kernel
theorem dX11_countFits_142 : decode cX11_countFits 142 = .ok (.iload_n 1, 1) := by decide +kernel
theorem dX11_countFits_143 : decode cX11_countFits 143 = .ok (.laload, 1) := by decide +kernel
theorem dX11_countFits_144 : decode cX11_countFits 144 = .ok (.iload_n 2, 1) := by decide +kernel
theorem dX11_countFits_145 : decode cX11_countFits 145 = .ok (.bipush 7, 2) := by decide +kernel
theorem dX11_countFits_147 : decode cX11_countFits 147 = .ok (.invokevirtual 360, 3) := by decide +kernel
theorem dX11_countFits_150 : decode cX11_countFits 150 = .ok (.iinc 2 1, 3) := by decide +kernel
theorem dX11_countFits_153 : decode cX11_countFits 153 = .ok (.goto (-104), 3) := by decide +kernel
theorem dX11_countFits_156 : decode cX11_countFits 156 = .ok (.iinc 1 1, 3) := by decide +kernel
theorem dX11_countFits_159 : decode cX11_countFits 159 = .ok (.goto (-135), 3) := by decide +kernel
theorem dX11_countFits_162 : decode cX11_countFits 162 = .ok (.return_, 1) := by decide +kernel
noncomputable def f_X11_countFits_J156 (a0 : Nat) (l1 : Int32) (μ : Mm) : Option ((Int32 × Mm) ⊕ (Mm)) :=
  (some (l1 + (1 : Int32))).bind fun v156 => some (.inl (v156, μ))
noncomputable def f_X11_countFits_J137 (a0 : Nat) (l1 : Int32) (l2 : Int32) (μ : Mm) : Option ((Int32 × Mm) ⊕ (Mm)) :=
  (gf_P 12 34 a0 μ).bind fun x139 => (ga_L x139 l1 μ).bind fun x143 => (f_X11_byNight a0 x143 l2 (7 : Int32) μ).bind fun x147 => (some (l2 + (1 : Int32))).bind fun v150 => some (.inl (v150, x147))
noncomputable def f_X11_countFits_J131 (a0 : Nat) (l1 : Int32) (l2 : Int32) (l3 : Int32) (μ : Mm) : Option ((Int32 × Mm) ⊕ (Mm)) :=
  (some (l3 + (1 : Int32))).bind fun v131 => some (.inl (v131, μ))
noncomputable def f_X11_countFits_L83 (a0 : Nat) (l1 : Int32) (l2 : Int32) (l3 : Int32) (s83 : Int32 × Mm) : Option ((Int32 × Mm) ⊕ (Mm)) :=
  (gf_P 12 12 a0 s83.2).bind fun x86 => (ga_I x86 (1 : Int32) s83.2).bind fun x90 => if x90 ≤ s83.1 then some (.inr s83.2) else (gf_P 12 58 a0 s83.2).bind fun x95 => (ga_I x95 (((((12 : Int32) * l3) + s83.1) * (28 : Int32)) + l2) s83.2).bind fun x111 => (gf_P 12 35 a0 s83.2).bind fun x113 => (ga_I x113 l3 s83.2).bind fun x117 => (pa_I x95 (((((12 : Int32) * l3) + s83.1) * (28 : Int32)) + l2) (x111 + ((x117 >>> (s83.1 &&& 31)) &&& (1 : Int32))) s83.2).bind fun μ124 => (some (s83.1 + (1 : Int32))).bind fun v125 => some (.inl (v125, μ124))
noncomputable def f_X11_countFits_L70 (a0 : Nat) (l1 : Int32) (l2 : Int32) (s70 : Int32 × Mm) : Option ((Int32 × Mm) ⊕ (Mm)) :=
  (gf_P 12 12 a0 s70.2).bind fun x72 => (ga_I x72 (0 : Int32) s70.2).bind fun x76 => if x76 ≤ s70.1 then some (.inr s70.2) else (whl (f_X11_countFits_L83 a0 l1 l2 s70.1) ((0 : Int32), s70.2)).bind (fun b83 => f_X11_countFits_J131 a0 l1 l2 s70.1 b83)
noncomputable def f_X11_countFits_L49 (a0 : Nat) (l1 : Int32) (s49 : Int32 × Mm) : Option ((Int32 × Mm) ⊕ (Mm)) :=
  if (28 : Int32) ≤ s49.1 then some (.inr s49.2) else (gf_P 12 34 a0 s49.2).bind fun x57 => (ga_L x57 l1 s49.2).bind fun x61 => (f_X11_byDay a0 x61 s49.1 (7 : Int32) s49.2).bind fun x65 => (whl (f_X11_countFits_L70 a0 l1 s49.1) ((0 : Int32), x65)).bind (fun b70 => f_X11_countFits_J137 a0 l1 s49.1 b70)
noncomputable def f_X11_countFits_L24 (a0 : Nat) (s24 : Int32 × Mm) : Option ((Int32 × Mm) ⊕ (Mm)) :=
  (gf_I 12 32 a0 s24.2).bind fun x26 => if x26 ≤ s24.1 then some (.inr s24.2) else (f_X11_isFitting a0 s24.1 s24.2).bind fun x34 => if x34 = 0 then f_X11_countFits_J156 a0 s24.1 s24.2 else (f_X11_forget a0 s24.2).bind fun x44 => (whl (f_X11_countFits_L49 a0 s24.1) ((0 : Int32), x44)).bind (fun b49 => f_X11_countFits_J156 a0 s24.1 b49)
noncomputable def f_X11_countFits_J22 (a0 : Nat) (μ : Mm) : Option Mm :=
  (whl (f_X11_countFits_L24 a0) ((0 : Int32), μ)).bind (fun b24 => some b24)
noncomputable def f_X11_countFits_L2 (a0 : Nat) (s2 : Int32 × Mm) : Option ((Int32 × Mm) ⊕ (Mm)) :=
  if (2688 : Int32) ≤ s2.1 then some (.inr s2.2) else (gf_P 12 58 a0 s2.2).bind fun x10 => (pa_I x10 s2.1 (0 : Int32) s2.2).bind fun μ15 => (some (s2.1 + (1 : Int32))).bind fun v16 => some (.inl (v16, μ15))
noncomputable def f_X11_countFits (a0 : Nat) (μ : Mm) : Option Mm :=
  if (mm_K μ a0).1 = 12 then (whl (f_X11_countFits_L2 a0) ((0 : Int32), μ)).bind (fun b2 => f_X11_countFits_J22 a0 b2) else none
abbrev Rn_X11_countFits (G : Gv) (Q : Option Value → Mm → Prop) (pc : Nat) (lv : List (Nat × Value)) (st : List Value) (μ : Mm) : Prop := Rn G RX11 cX11_countFits 5 none "countFits" (rmd 3 0 0) (Zm G 0 0 Q) 0 0 pc lv st μ
set_option maxRecDepth 100000 in
set_option maxHeartbeats 4000000 in
theorem m_X11_countFits {G : Gv} (a0 : Nat) (μ : Mm) {r : Mm} (hx : f_X11_countFits a0 μ = some r) : Mt G yX11_countFits cX11_countFits 5 none 3 0 0 [.ref a0] μ (fun v μ' => v = none ∧ μ' = r) := by
  refine Mt.of (by decide) (Nat.le_of_ble_eq_true rfl) ?_
  show Rn_X11_countFits G (fun v μ' => v = none ∧ μ' = r) 0 [(0, .ref a0)] [] μ
  obtain ⟨_, h⟩ := Sat_ifp (show Sat (f_X11_countFits a0 μ) (fun x => x = r) from ⟨_, hx, rfl⟩)
  have J22 : ∀ (a0_22 : Nat) (μ_22 : Mm), Sat (f_X11_countFits_J22 a0_22 μ_22) (fun x => x = r) → Rn_X11_countFits G (fun v μ' => v = none ∧ μ' = r) 22 [(0, .ref a0_22)] [] μ_22 := by
    intro a0_22 μ_22 h
    refine r_iconst (v := 0) dX11_countFits_22 (by decide) ?_
    refine r_istore_n (lv' := [(1, .int (0 : Int32)), (0, .ref a0_22)]) dX11_countFits_23 rfl (by decide) rfl ?_
    refine r_sub (lv' := [(0, .ref a0_22), (1, .int (0 : Int32))]) [1, 0] rfl ?_
    refine whl_K (s0 := (((0 : Int32), μ_22) : Int32 × Mm)) (RR := fun (s24 : Int32 × Mm) => Rn_X11_countFits G (fun v μ' => v = none ∧ μ' = r) 24 [(0, .ref a0_22), (1, .int s24.1)] [] s24.2) ?_ (Sat_bindK h)
    intro s24 K24 hI24 hX24 h
    have J156 : ∀ (l1_156 : Int32) (μ_156 : Mm), Sat (f_X11_countFits_J156 a0_22 l1_156 μ_156) K24 → Rn_X11_countFits G (fun v μ' => v = none ∧ μ' = r) 156 [(0, .ref a0_22), (1, .int l1_156)] [] μ_156 := by
      intro l1_156 μ_156 h
      obtain ⟨v156, e156, h⟩ := Sat_bind h
      refine r_iinc (j := 1) (v := v156) (lv' := [(1, .int v156), (0, .ref a0_22)]) dX11_countFits_156 rfl (iinc_v e156 (by decide)) (by decide) rfl ?_
      refine r_goto 24 dX11_countFits_159 (by decide) ?_
      exact r_sub [1, 0] rfl (hI24 _ (Sat_some h))
    refine r_iload_n dX11_countFits_24 1 rfl ?_
    refine r_aload_n dX11_countFits_25 0 rfl ?_
    obtain ⟨x26, e26, h⟩ := Sat_bind h
    refine r_getI fk_X11_234 rfl e26 dX11_countFits_26 ?_
    refine r_icmp_ge 162 dX11_countFits_29 (by decide) (fun c29 => ?_) (fun c29 => ?_)
    · have h := Sat_pos c29 h
      have h := hX24 _ (Sat_some h)
      exact r_vreturn rfl (by rw [← Sat_eq h]; exact ⟨rfl, rfl⟩) dX11_countFits_162
    · have h := Sat_neg c29 h
      refine r_aload_n dX11_countFits_32 0 rfl ?_
      refine r_iload_n dX11_countFits_33 1 rfl ?_
      obtain ⟨x34, e34, h⟩ := Sat_bind h
      refine r_cV (t := 12) [.int s24.1] [] (m_X11_isFitting a0_22 s24.1 s24.2 e34) ck_X11_isFitting lk_X11_395 in_X11_isFitting se_X11_isFitting (kd_of e34) ⟨rfl, by decide, by decide⟩ rfl rfl (Nat.le_of_ble_eq_true rfl) ⟨by decide, by decide⟩ ⟨Nat.zero_le _, Nat.zero_le _⟩ dX11_countFits_34 ?_
      refine r_if_ne 43 dX11_countFits_37 (by decide) (fun c37 => ?_) (fun c37 => ?_)
      · have h := Sat_neg c37 h
        refine r_aload_n dX11_countFits_43 0 rfl ?_
        obtain ⟨x44, e44, h⟩ := Sat_bind h
        refine r_cV (t := 12) [] [] (m_X11_forget a0_22 s24.2 e44) ck_X11_forget lk_X11_353 in_X11_forget se_X11_forget (kd_of e44) ⟨rfl, by decide, by decide⟩ rfl rfl (Nat.le_of_ble_eq_true rfl) ⟨by decide, by decide⟩ ⟨Nat.zero_le _, Nat.zero_le _⟩ dX11_countFits_44 ?_
        refine r_iconst (v := 0) dX11_countFits_47 (by decide) ?_
        refine r_istore_n (lv' := [(2, .int (0 : Int32)), (0, .ref a0_22), (1, .int s24.1)]) dX11_countFits_48 rfl (by decide) rfl ?_
        refine r_sub (lv' := [(0, .ref a0_22), (1, .int s24.1), (2, .int (0 : Int32))]) [1, 2, 0] rfl ?_
        refine whl_K (s0 := (((0 : Int32), x44) : Int32 × Mm)) (RR := fun (s49 : Int32 × Mm) => Rn_X11_countFits G (fun v μ' => v = none ∧ μ' = r) 49 [(0, .ref a0_22), (1, .int s24.1), (2, .int s49.1)] [] s49.2) ?_ (Sat_bindK h)
        intro s49 K49 hI49 hX49 h
        have J137 : ∀ (l2_137 : Int32) (μ_137 : Mm), Sat (f_X11_countFits_J137 a0_22 s24.1 l2_137 μ_137) K49 → Rn_X11_countFits G (fun v μ' => v = none ∧ μ' = r) 137 [(0, .ref a0_22), (1, .int s24.1), (2, .int l2_137)] [] μ_137 := by
          intro l2_137 μ_137 h
          refine r_aload_n dX11_countFits_137 0 rfl ?_
          refine r_aload_n dX11_countFits_138 0 rfl ?_
          obtain ⟨x139, e139, h⟩ := Sat_bind h
          refine r_getP fk_X11_73 rfl e139 dX11_countFits_139 ?_
          refine r_iload_n dX11_countFits_142 1 rfl ?_
          obtain ⟨x143, e143, h⟩ := Sat_bind h
          refine r_laload e143 dX11_countFits_143 ?_
          refine r_iload_n dX11_countFits_144 2 rfl ?_
          refine r_bipush (v := 7) dX11_countFits_145 (by decide) ?_
          obtain ⟨x147, e147, h⟩ := Sat_bind h
          refine r_cV (t := 12) [.long x143, .int l2_137, .int (7 : Int32)] [] (m_X11_byNight a0_22 x143 l2_137 (7 : Int32) μ_137 e147) ck_X11_byNight lk_X11_360 in_X11_byNight se_X11_byNight (kd_of e147) ⟨rfl, by decide, by decide⟩ rfl rfl (Nat.le_of_ble_eq_true rfl) ⟨by decide, by decide⟩ ⟨Nat.zero_le _, Nat.zero_le _⟩ dX11_countFits_147 ?_
          obtain ⟨v150, e150, h⟩ := Sat_bind h
          refine r_iinc (j := 2) (v := v150) (lv' := [(2, .int v150), (0, .ref a0_22), (1, .int s24.1)]) dX11_countFits_150 rfl (iinc_v e150 (by decide)) (by decide) rfl ?_
          refine r_goto 49 dX11_countFits_153 (by decide) ?_
          exact r_sub [1, 2, 0] rfl (hI49 _ (Sat_some h))
        refine r_iload_n dX11_countFits_49 2 rfl ?_
        refine r_bipush (v := 28) dX11_countFits_50 (by decide) ?_
        refine r_icmp_ge 156 dX11_countFits_52 (by decide) (fun c52 => ?_) (fun c52 => ?_)
        · have h := Sat_pos c52 h
          have h := hX49 _ (Sat_some h)
          exact r_sub [0, 1] rfl (J156 s24.1 s49.2 h)
        · have h := Sat_neg c52 h
          refine r_aload_n dX11_countFits_55 0 rfl ?_
          refine r_aload_n dX11_countFits_56 0 rfl ?_
          obtain ⟨x57, e57, h⟩ := Sat_bind h
          refine r_getP fk_X11_73 rfl e57 dX11_countFits_57 ?_
          refine r_iload_n dX11_countFits_60 1 rfl ?_
          obtain ⟨x61, e61, h⟩ := Sat_bind h
          refine r_laload e61 dX11_countFits_61 ?_
          refine r_iload_n dX11_countFits_62 2 rfl ?_
          refine r_bipush (v := 7) dX11_countFits_63 (by decide) ?_
          obtain ⟨x65, e65, h⟩ := Sat_bind h
          refine r_cV (t := 12) [.long x61, .int s49.1, .int (7 : Int32)] [] (m_X11_byDay a0_22 x61 s49.1 (7 : Int32) s49.2 e65) ck_X11_byDay lk_X11_356 in_X11_byDay se_X11_byDay (kd_of e65) ⟨rfl, by decide, by decide⟩ rfl rfl (Nat.le_of_ble_eq_true rfl) ⟨by decide, by decide⟩ ⟨Nat.zero_le _, Nat.zero_le _⟩ dX11_countFits_65 ?_
          refine r_iconst (v := 0) dX11_countFits_68 (by decide) ?_
          refine r_istore_n (lv' := [(3, .int (0 : Int32)), (0, .ref a0_22), (1, .int s24.1), (2, .int s49.1)]) dX11_countFits_69 rfl (by decide) rfl ?_
          refine r_sub (lv' := [(0, .ref a0_22), (1, .int s24.1), (2, .int s49.1), (3, .int (0 : Int32))]) [1, 2, 3, 0] rfl ?_
          refine whl_K (s0 := (((0 : Int32), x65) : Int32 × Mm)) (RR := fun (s70 : Int32 × Mm) => Rn_X11_countFits G (fun v μ' => v = none ∧ μ' = r) 70 [(0, .ref a0_22), (1, .int s24.1), (2, .int s49.1), (3, .int s70.1)] [] s70.2) ?_ (Sat_bindK h)
          intro s70 K70 hI70 hX70 h
          have J131 : ∀ (l3_131 : Int32) (μ_131 : Mm), Sat (f_X11_countFits_J131 a0_22 s24.1 s49.1 l3_131 μ_131) K70 → Rn_X11_countFits G (fun v μ' => v = none ∧ μ' = r) 131 [(0, .ref a0_22), (1, .int s24.1), (2, .int s49.1), (3, .int l3_131)] [] μ_131 := by
            intro l3_131 μ_131 h
            obtain ⟨v131, e131, h⟩ := Sat_bind h
            refine r_iinc (j := 3) (v := v131) (lv' := [(3, .int v131), (0, .ref a0_22), (1, .int s24.1), (2, .int s49.1)]) dX11_countFits_131 rfl (iinc_v e131 (by decide)) (by decide) rfl ?_
            refine r_goto 70 dX11_countFits_134 (by decide) ?_
            exact r_sub [1, 2, 3, 0] rfl (hI70 _ (Sat_some h))
          refine r_iload_n dX11_countFits_70 3 rfl ?_
          refine r_aload_n dX11_countFits_71 0 rfl ?_
          obtain ⟨x72, e72, h⟩ := Sat_bind h
          refine r_getP fk_X11_17 rfl e72 dX11_countFits_72 ?_
          refine r_iconst (v := 0) dX11_countFits_75 (by decide) ?_
          obtain ⟨x76, e76, h⟩ := Sat_bind h
          refine r_iaload e76 dX11_countFits_76 ?_
          refine r_icmp_ge 137 dX11_countFits_77 (by decide) (fun c77 => ?_) (fun c77 => ?_)
          · have h := Sat_pos c77 h
            have h := hX70 _ (Sat_some h)
            exact r_sub [0, 1, 2] rfl (J137 s49.1 s70.2 h)
          · have h := Sat_neg c77 h
            refine r_iconst (v := 0) dX11_countFits_80 (by decide) ?_
            refine r_istore (lv' := [(4, .int (0 : Int32)), (0, .ref a0_22), (1, .int s24.1), (2, .int s49.1), (3, .int s70.1)]) dX11_countFits_81 (by decide) rfl ?_
            refine r_sub (lv' := [(0, .ref a0_22), (1, .int s24.1), (2, .int s49.1), (3, .int s70.1), (4, .int (0 : Int32))]) [1, 2, 3, 4, 0] rfl ?_
            refine whl_K (s0 := (((0 : Int32), s70.2) : Int32 × Mm)) (RR := fun (s83 : Int32 × Mm) => Rn_X11_countFits G (fun v μ' => v = none ∧ μ' = r) 83 [(0, .ref a0_22), (1, .int s24.1), (2, .int s49.1), (3, .int s70.1), (4, .int s83.1)] [] s83.2) ?_ (Sat_bindK h)
            intro s83 K83 hI83 hX83 h
            refine r_iload dX11_countFits_83 4 rfl ?_
            refine r_aload_n dX11_countFits_85 0 rfl ?_
            obtain ⟨x86, e86, h⟩ := Sat_bind h
            refine r_getP fk_X11_17 rfl e86 dX11_countFits_86 ?_
            refine r_iconst (v := 1) dX11_countFits_89 (by decide) ?_
            obtain ⟨x90, e90, h⟩ := Sat_bind h
            refine r_iaload e90 dX11_countFits_90 ?_
            refine r_icmp_ge 131 dX11_countFits_91 (by decide) (fun c91 => ?_) (fun c91 => ?_)
            · have h := Sat_pos c91 h
              have h := hX83 _ (Sat_some h)
              exact r_sub [0, 1, 2, 3] rfl (J131 s70.1 s83.2 h)
            · have h := Sat_neg c91 h
              refine r_aload_n dX11_countFits_94 0 rfl ?_
              obtain ⟨x95, e95, h⟩ := Sat_bind h
              refine r_getP fk_X11_118 rfl e95 dX11_countFits_95 ?_
              refine r_bipush (v := 12) dX11_countFits_98 (by decide) ?_
              refine r_iload_n dX11_countFits_100 3 rfl ?_
              refine r_imul dX11_countFits_101 ?_
              refine r_iload dX11_countFits_102 4 rfl ?_
              refine r_iadd dX11_countFits_104 ?_
              refine r_bipush (v := 28) dX11_countFits_105 (by decide) ?_
              refine r_imul dX11_countFits_107 ?_
              refine r_iload_n dX11_countFits_108 2 rfl ?_
              refine r_iadd dX11_countFits_109 ?_
              refine r_dup2_11 dX11_countFits_110 rfl rfl ?_
              obtain ⟨x111, e111, h⟩ := Sat_bind h
              refine r_iaload e111 dX11_countFits_111 ?_
              refine r_aload_n dX11_countFits_112 0 rfl ?_
              obtain ⟨x113, e113, h⟩ := Sat_bind h
              refine r_getP fk_X11_76 rfl e113 dX11_countFits_113 ?_
              refine r_iload_n dX11_countFits_116 3 rfl ?_
              obtain ⟨x117, e117, h⟩ := Sat_bind h
              refine r_iaload e117 dX11_countFits_117 ?_
              refine r_iload dX11_countFits_118 4 rfl ?_
              refine r_ishr dX11_countFits_120 ?_
              refine r_iconst (v := 1) dX11_countFits_121 (by decide) ?_
              refine r_iand dX11_countFits_122 ?_
              refine r_iadd dX11_countFits_123 ?_
              obtain ⟨μ124, e124, h⟩ := Sat_bind h
              refine r_iastore e124 dX11_countFits_124 ?_
              obtain ⟨v125, e125, h⟩ := Sat_bind h
              refine r_iinc (j := 4) (v := v125) (lv' := [(4, .int v125), (0, .ref a0_22), (1, .int s24.1), (2, .int s49.1), (3, .int s70.1)]) dX11_countFits_125 rfl (iinc_v e125 (by decide)) (by decide) rfl ?_
              refine r_goto 83 dX11_countFits_128 (by decide) ?_
              exact r_sub [1, 2, 3, 4, 0] rfl (hI83 _ (Sat_some h))
      · have h := Sat_pos c37 h
        refine r_goto 156 dX11_countFits_40 (by decide) ?_
        exact r_sub [0, 1] rfl (J156 s24.1 s24.2 h)
  refine r_iconst (v := 0) dX11_countFits_0 (by decide) ?_
  refine r_istore_n (lv' := [(1, .int (0 : Int32)), (0, .ref a0)]) dX11_countFits_1 rfl (by decide) rfl ?_
  refine r_sub (lv' := [(0, .ref a0), (1, .int (0 : Int32))]) [1, 0] rfl ?_
  refine whl_K (s0 := (((0 : Int32), μ) : Int32 × Mm)) (RR := fun (s2 : Int32 × Mm) => Rn_X11_countFits G (fun v μ' => v = none ∧ μ' = r) 2 [(0, .ref a0), (1, .int s2.1)] [] s2.2) ?_ (Sat_bindK h)
  intro s2 K2 hI2 hX2 h
  refine r_iload_n dX11_countFits_2 1 rfl ?_
  refine r_sipush (v := 2688) dX11_countFits_3 (by decide) ?_
  refine r_icmp_ge 22 dX11_countFits_6 (by decide) (fun c6 => ?_) (fun c6 => ?_)
  · have h := Sat_pos c6 h
    have h := hX2 _ (Sat_some h)
    exact r_sub [0] rfl (J22 a0 s2.2 h)
  · have h := Sat_neg c6 h
    refine r_aload_n dX11_countFits_9 0 rfl ?_
    obtain ⟨x10, e10, h⟩ := Sat_bind h
    refine r_getP fk_X11_118 rfl e10 dX11_countFits_10 ?_
    refine r_iload_n dX11_countFits_13 1 rfl ?_
    refine r_iconst (v := 0) dX11_countFits_14 (by decide) ?_
    obtain ⟨μ15, e15, h⟩ := Sat_bind h
    refine r_iastore e15 dX11_countFits_15 ?_
    obtain ⟨v16, e16, h⟩ := Sat_bind h
    refine r_iinc (j := 1) (v := v16) (lv' := [(1, .int v16), (0, .ref a0)]) dX11_countFits_16 rfl (iinc_v e16 (by decide)) (by decide) rfl ?_
    refine r_goto 2 dX11_countFits_19 (by decide) ?_
    exact r_sub [1, 0] rfl (hI2 _ (Sat_some h))
theorem dX11_knewAt_0 : decode cX11_knewAt 0 = .ok (.aload_n 0, 1) := by decide +kernel
theorem dX11_knewAt_1 : decode cX11_knewAt 1 = .ok (.getfield 103, 3) := by decide +kernel
theorem dX11_knewAt_4 : decode cX11_knewAt 4 = .ok (.iload_n 1, 1) := by decide +kernel
theorem dX11_knewAt_5 : decode cX11_knewAt 5 = .ok (.iaload, 1) := by decide +kernel
theorem dX11_knewAt_6 : decode cX11_knewAt 6 = .ok (.istore_n 3, 1) := by decide +kernel
theorem dX11_knewAt_7 : decode cX11_knewAt 7 = .ok (.iconst 0, 1) := by decide +kernel
theorem dX11_knewAt_8 : decode cX11_knewAt 8 = .ok (.istore 4, 2) := by decide +kernel
theorem dX11_knewAt_10 : decode cX11_knewAt 10 = .ok (.iload 4, 2) := by decide +kernel
theorem dX11_knewAt_12 : decode cX11_knewAt 12 = .ok (.aload_n 0, 1) := by decide +kernel
theorem dX11_knewAt_13 : decode cX11_knewAt 13 = .ok (.getfield 247, 3) := by decide +kernel
theorem dX11_knewAt_16 : decode cX11_knewAt 16 = .ok (.if_icmp .ge 39, 3) := by decide +kernel
theorem dX11_knewAt_19 : decode cX11_knewAt 19 = .ok (.aload_n 0, 1) := by decide +kernel
theorem dX11_knewAt_20 : decode cX11_knewAt 20 = .ok (.getfield 109, 3) := by decide +kernel
theorem dX11_knewAt_23 : decode cX11_knewAt 23 = .ok (.iload 4, 2) := by decide +kernel
theorem dX11_knewAt_25 : decode cX11_knewAt 25 = .ok (.iaload, 1) := by decide +kernel
theorem dX11_knewAt_26 : decode cX11_knewAt 26 = .ok (.iload_n 1, 1) := by decide +kernel
theorem dX11_knewAt_27 : decode cX11_knewAt 27 = .ok (.if_icmp .ne 22, 3) := by decide +kernel
theorem dX11_knewAt_30 : decode cX11_knewAt 30 = .ok (.aload_n 0, 1) := by decide +kernel
theorem dX11_knewAt_31 : decode cX11_knewAt 31 = .ok (.getfield 106, 3) := by decide +kernel
theorem dX11_knewAt_34 : decode cX11_knewAt 34 = .ok (.iload 4, 2) := by decide +kernel
theorem dX11_knewAt_36 : decode cX11_knewAt 36 = .ok (.iaload, 1) := by decide +kernel
theorem dX11_knewAt_37 : decode cX11_knewAt 37 = .ok (.iload_n 2, 1) := by decide +kernel
theorem dX11_knewAt_38 : decode cX11_knewAt 38 = .ok (.if_icmp .gt 11, 3) := by decide +kernel
theorem dX11_knewAt_41 : decode cX11_knewAt 41 = .ok (.aload_n 0, 1) := by decide +kernel
theorem dX11_knewAt_42 : decode cX11_knewAt 42 = .ok (.getfield 112, 3) := by decide +kernel
theorem dX11_knewAt_45 : decode cX11_knewAt 45 = .ok (.iload 4, 2) := by decide +kernel
theorem dX11_knewAt_47 : decode cX11_knewAt 47 = .ok (.iaload, 1) := by decide +kernel
theorem dX11_knewAt_48 : decode cX11_knewAt 48 = .ok (.istore_n 3, 1) := by decide +kernel
theorem dX11_knewAt_49 : decode cX11_knewAt 49 = .ok (.iinc 4 1, 3) := by decide +kernel
theorem dX11_knewAt_52 : decode cX11_knewAt 52 = .ok (.goto (-42), 3) := by decide +kernel
theorem dX11_knewAt_55 : decode cX11_knewAt 55 = .ok (.iload_n 3, 1) := by decide +kernel
theorem dX11_knewAt_56 : decode cX11_knewAt 56 = .ok (.ireturn, 1) := by decide +kernel
noncomputable def f_X11_knewAt_J49 (a0 : Nat) (l1 : Int32) (l2 : Int32) (l3 : Int32) (l4 : Int32) (μ : Mm) : Option ((Int32 × Int32) ⊕ (Int32)) :=
  (some (l4 + (1 : Int32))).bind fun v49 => some (.inl (l3, v49))
noncomputable def f_X11_knewAt_L10 (a0 : Nat) (l1 : Int32) (l2 : Int32) (μ : Mm) (s10 : Int32 × Int32) : Option ((Int32 × Int32) ⊕ (Int32)) :=
  (gf_I 12 47 a0 μ).bind fun x13 => if x13 ≤ s10.2 then some (.inr s10.1) else (gf_P 12 55 a0 μ).bind fun x20 => (ga_I x20 s10.2 μ).bind fun x25 => if x25 = l1 then (gf_P 12 54 a0 μ).bind fun x31 => (ga_I x31 s10.2 μ).bind fun x36 => if l2 < x36 then f_X11_knewAt_J49 a0 l1 l2 s10.1 s10.2 μ else (gf_P 12 56 a0 μ).bind fun x42 => (ga_I x42 s10.2 μ).bind fun x47 => f_X11_knewAt_J49 a0 l1 l2 x47 s10.2 μ else f_X11_knewAt_J49 a0 l1 l2 s10.1 s10.2 μ
noncomputable def f_X11_knewAt (a0 : Nat) (l1 : Int32) (l2 : Int32) (μ : Mm) : Option Int32 :=
  if (mm_K μ a0).1 = 12 then (gf_P 12 53 a0 μ).bind fun x1 => (ga_I x1 l1 μ).bind fun x5 => (whl (f_X11_knewAt_L10 a0 l1 l2 μ) (x5, (0 : Int32))).bind (fun b10 => some b10) else none
abbrev Rn_X11_knewAt (G : Gv) (Q : Option Value → Mm → Prop) (pc : Nat) (lv : List (Nat × Value)) (st : List Value) (μ : Mm) : Prop := Rn G RX11 cX11_knewAt 5 (some .int) "knewAt" (rmd 0 0 0) (Zm G 0 0 Q) 0 0 pc lv st μ
set_option maxRecDepth 100000 in
set_option maxHeartbeats 4000000 in
theorem m_X11_knewAt {G : Gv} (a0 : Nat) (l1 : Int32) (l2 : Int32) (μ : Mm) {r : Int32} (hx : f_X11_knewAt a0 l1 l2 μ = some r) : Mt G yX11_knewAt cX11_knewAt 5 (some .int) 0 0 0 [.ref a0, .int l1, .int l2] μ (fun v μ' => v = some (.int r) ∧ μ' = μ) := by
  refine Mt.of (by decide) (Nat.le_of_ble_eq_true rfl) ?_
  show Rn_X11_knewAt G (fun v μ' => v = some (.int r) ∧ μ' = μ) 0 [(0, .ref a0), (1, .int l1), (2, .int l2)] [] μ
  obtain ⟨_, h⟩ := Sat_ifp (show Sat (f_X11_knewAt a0 l1 l2 μ) (fun x => x = r) from ⟨_, hx, rfl⟩)
  refine r_aload_n dX11_knewAt_0 0 rfl ?_
  obtain ⟨x1, e1, h⟩ := Sat_bind h
  refine r_getP fk_X11_103 rfl e1 dX11_knewAt_1 ?_
  refine r_iload_n dX11_knewAt_4 1 rfl ?_
  obtain ⟨x5, e5, h⟩ := Sat_bind h
  refine r_iaload e5 dX11_knewAt_5 ?_
  refine r_istore_n (lv' := [(3, .int x5), (0, .ref a0), (1, .int l1), (2, .int l2)]) dX11_knewAt_6 rfl (by decide) rfl ?_
  refine r_iconst (v := 0) dX11_knewAt_7 (by decide) ?_
  refine r_istore (lv' := [(4, .int (0 : Int32)), (3, .int x5), (0, .ref a0), (1, .int l1), (2, .int l2)]) dX11_knewAt_8 (by decide) rfl ?_
  refine r_sub (lv' := [(0, .ref a0), (1, .int l1), (2, .int l2), (3, .int x5), (4, .int (0 : Int32))]) [2, 3, 4, 1, 0] rfl ?_
  refine whl_K (s0 := ((x5, (0 : Int32)) : Int32 × Int32)) (RR := fun (s10 : Int32 × Int32) => Rn_X11_knewAt G (fun v μ' => v = some (.int r) ∧ μ' = μ) 10 [(0, .ref a0), (1, .int l1), (2, .int l2), (3, .int s10.1), (4, .int s10.2)] [] μ) ?_ (Sat_bindK h)
  intro s10 K10 hI10 hX10 h
  have J49 : ∀ (l3_49 : Int32) (l4_49 : Int32), Sat (f_X11_knewAt_J49 a0 l1 l2 l3_49 l4_49 μ) K10 → Rn_X11_knewAt G (fun v μ' => v = some (.int r) ∧ μ' = μ) 49 [(0, .ref a0), (1, .int l1), (2, .int l2), (3, .int l3_49), (4, .int l4_49)] [] μ := by
    intro l3_49 l4_49 h
    obtain ⟨v49, e49, h⟩ := Sat_bind h
    refine r_iinc (j := 4) (v := v49) (lv' := [(4, .int v49), (0, .ref a0), (1, .int l1), (2, .int l2), (3, .int l3_49)]) dX11_knewAt_49 rfl (iinc_v e49 (by decide)) (by decide) rfl ?_
    refine r_goto 10 dX11_knewAt_52 (by decide) ?_
    exact r_sub [1, 2, 3, 4, 0] rfl (hI10 _ (Sat_some h))
  refine r_iload dX11_knewAt_10 4 rfl ?_
  refine r_aload_n dX11_knewAt_12 0 rfl ?_
  obtain ⟨x13, e13, h⟩ := Sat_bind h
  refine r_getI fk_X11_247 rfl e13 dX11_knewAt_13 ?_
  refine r_icmp_ge 55 dX11_knewAt_16 (by decide) (fun c16 => ?_) (fun c16 => ?_)
  · have h := Sat_pos c16 h
    have h := hX10 _ (Sat_some h)
    refine r_iload_n dX11_knewAt_55 3 rfl ?_
    exact r_ireturn rfl (by rw [← Sat_eq h]; exact ⟨rfl, rfl⟩) dX11_knewAt_56
  · have h := Sat_neg c16 h
    refine r_aload_n dX11_knewAt_19 0 rfl ?_
    obtain ⟨x20, e20, h⟩ := Sat_bind h
    refine r_getP fk_X11_109 rfl e20 dX11_knewAt_20 ?_
    refine r_iload dX11_knewAt_23 4 rfl ?_
    obtain ⟨x25, e25, h⟩ := Sat_bind h
    refine r_iaload e25 dX11_knewAt_25 ?_
    refine r_iload_n dX11_knewAt_26 1 rfl ?_
    refine r_icmp_ne 49 dX11_knewAt_27 (by decide) (fun c27 => ?_) (fun c27 => ?_)
    · have h := Sat_neg c27 h
      exact r_sub [0, 1, 2, 3, 4] rfl (J49 s10.1 s10.2 h)
    · have h := Sat_pos c27 h
      refine r_aload_n dX11_knewAt_30 0 rfl ?_
      obtain ⟨x31, e31, h⟩ := Sat_bind h
      refine r_getP fk_X11_106 rfl e31 dX11_knewAt_31 ?_
      refine r_iload dX11_knewAt_34 4 rfl ?_
      obtain ⟨x36, e36, h⟩ := Sat_bind h
      refine r_iaload e36 dX11_knewAt_36 ?_
      refine r_iload_n dX11_knewAt_37 2 rfl ?_
      refine r_icmp_gt 49 dX11_knewAt_38 (by decide) (fun c38 => ?_) (fun c38 => ?_)
      · have h := Sat_pos c38 h
        exact r_sub [0, 1, 2, 3, 4] rfl (J49 s10.1 s10.2 h)
      · have h := Sat_neg c38 h
        refine r_aload_n dX11_knewAt_41 0 rfl ?_
        obtain ⟨x42, e42, h⟩ := Sat_bind h
        refine r_getP fk_X11_112 rfl e42 dX11_knewAt_42 ?_
        refine r_iload dX11_knewAt_45 4 rfl ?_
        obtain ⟨x47, e47, h⟩ := Sat_bind h
        refine r_iaload e47 dX11_knewAt_47 ?_
        refine r_istore_n (lv' := [(3, .int x47), (0, .ref a0), (1, .int l1), (2, .int l2), (4, .int s10.2)]) dX11_knewAt_48 rfl (by decide) rfl ?_
        exact r_sub [1, 2, 3, 0, 4] rfl (J49 x47 s10.2 h)
theorem dX11_isSo_0 : decode cX11_isSo 0 = .ok (.iconst 0, 1) := by decide +kernel
theorem dX11_isSo_1 : decode cX11_isSo 1 = .ok (.istore_n 3, 1) := by decide +kernel
theorem dX11_isSo_2 : decode cX11_isSo 2 = .ok (.iload_n 3, 1) := by decide +kernel
theorem dX11_isSo_3 : decode cX11_isSo 3 = .ok (.aload_n 0, 1) := by decide +kernel
theorem dX11_isSo_4 : decode cX11_isSo 4 = .ok (.getfield 244, 3) := by decide +kernel
theorem dX11_isSo_7 : decode cX11_isSo 7 = .ok (.if_icmp .ge 60, 3) := by decide +kernel
theorem dX11_isSo_10 : decode cX11_isSo 10 = .ok (.aload_n 0, 1) := by decide +kernel
theorem dX11_isSo_11 : decode cX11_isSo 11 = .ok (.getfield 94, 3) := by decide +kernel
theorem dX11_isSo_14 : decode cX11_isSo 14 = .ok (.iload_n 3, 1) := by decide +kernel
theorem dX11_isSo_15 : decode cX11_isSo 15 = .ok (.iaload, 1) := by decide +kernel
theorem dX11_isSo_16 : decode cX11_isSo 16 = .ok (.iload_n 1, 1) := by decide +kernel
theorem dX11_isSo_17 : decode cX11_isSo 17 = .ok (.if_icmp .ne 44, 3) := by decide +kernel
theorem dX11_isSo_20 : decode cX11_isSo 20 = .ok (.aload_n 0, 1) := by decide +kernel
theorem dX11_isSo_21 : decode cX11_isSo 21 = .ok (.getfield 91, 3) := by decide +kernel
theorem dX11_isSo_24 : decode cX11_isSo 24 = .ok (.iload_n 3, 1) := by decide +kernel
theorem dX11_isSo_25 : decode cX11_isSo 25 = .ok (.iaload, 1) := by decide +kernel
theorem dX11_isSo_26 : decode cX11_isSo 26 = .ok (.iload_n 2, 1) := by decide +kernel
theorem dX11_isSo_27 : decode cX11_isSo 27 = .ok (.if_icmp .gt 34, 3) := by decide +kernel
theorem dX11_isSo_30 : decode cX11_isSo 30 = .ok (.aload_n 0, 1) := by decide +kernel
theorem dX11_isSo_31 : decode cX11_isSo 31 = .ok (.getfield 76, 3) := by decide +kernel
theorem dX11_isSo_34 : decode cX11_isSo 34 = .ok (.aload_n 0, 1) := by decide +kernel
theorem dX11_isSo_35 : decode cX11_isSo 35 = .ok (.getfield 97, 3) := by decide +kernel
theorem dX11_isSo_38 : decode cX11_isSo 38 = .ok (.iload_n 3, 1) := by decide +kernel
theorem dX11_isSo_39 : decode cX11_isSo 39 = .ok (.iaload, 1) := by decide +kernel
theorem dX11_isSo_40 : decode cX11_isSo 40 = .ok (.iaload, 1) := by decide +kernel
theorem dX11_isSo_41 : decode cX11_isSo 41 = .ok (.aload_n 0, 1) := by decide +kernel
theorem dX11_isSo_42 : decode cX11_isSo 42 = .ok (.getfield 100, 3) := by decide +kernel
theorem dX11_isSo_45 : decode cX11_isSo 45 = .ok (.iload_n 3, 1) := by decide +kernel
theorem dX11_isSo_46 : decode cX11_isSo 46 = .ok (.iaload, 1) := by decide +kernel
theorem dX11_isSo_47 : decode cX11_isSo 47 = .ok (.ishr, 1) := by decide +kernel
theorem dX11_isSo_48 : decode cX11_isSo 48 = .ok (.iconst 1, 1) := by decide +kernel
theorem dX11_isSo_49 : decode cX11_isSo 49 = .ok (.iand, 1) := by decide +kernel
theorem dX11_isSo_50 : decode cX11_isSo 50 = .ok (.aload_n 0, 1) := by decide +kernel
theorem dX11_isSo_51 : decode cX11_isSo 51 = .ok (.iload_n 3, 1) := by decide +kernel
theorem dX11_isSo_52 : decode cX11_isSo 52 = .ok (.iload_n 2, 1) := by decide +kernel
theorem dX11_isSo_53 : decode cX11_isSo 53 = .ok (.invokevirtual 379, 3) := by decide +kernel
theorem dX11_isSo_56 : decode cX11_isSo 56 = .ok (.if_icmp .eq 5, 3) := by decide +kernel
theorem dX11_isSo_59 : decode cX11_isSo 59 = .ok (.iconst 0, 1) := by decide +kernel
theorem dX11_isSo_60 : decode cX11_isSo 60 = .ok (.ireturn, 1) := by decide +kernel
theorem dX11_isSo_61 : decode cX11_isSo 61 = .ok (.iinc 3 1, 3) := by decide +kernel
theorem dX11_isSo_64 : decode cX11_isSo 64 = .ok (.goto (-62), 3) := by decide +kernel
theorem dX11_isSo_67 : decode cX11_isSo 67 = .ok (.iconst 1, 1) := by decide +kernel
theorem dX11_isSo_68 : decode cX11_isSo 68 = .ok (.ireturn, 1) := by decide +kernel
noncomputable def f_X11_isSo_J61 (a0 : Nat) (l1 : Int32) (l2 : Int32) (l3 : Int32) (μ : Mm) : Option ((Int32) ⊕ ((Unit) ⊕ (Unit))) :=
  (some (l3 + (1 : Int32))).bind fun v61 => some (.inl v61)
noncomputable def f_X11_isSo_L2 (a0 : Nat) (l1 : Int32) (l2 : Int32) (μ : Mm) (s2 : Int32) : Option ((Int32) ⊕ ((Unit) ⊕ (Unit))) :=
  (gf_I 12 46 a0 μ).bind fun x4 => if x4 ≤ s2 then some (.inr (.inr ())) else (gf_P 12 50 a0 μ).bind fun x11 => (ga_I x11 s2 μ).bind fun x15 => if x15 = l1 then (gf_P 12 49 a0 μ).bind fun x21 => (ga_I x21 s2 μ).bind fun x25 => if l2 < x25 then f_X11_isSo_J61 a0 l1 l2 s2 μ else (gf_P 12 35 a0 μ).bind fun x31 => (gf_P 12 51 a0 μ).bind fun x35 => (ga_I x35 s2 μ).bind fun x39 => (ga_I x31 x39 μ).bind fun x40 => (gf_P 12 52 a0 μ).bind fun x42 => (ga_I x42 s2 μ).bind fun x46 => (f_X11_knewAt a0 s2 l2 μ).bind fun x53 => if ((x40 >>> (x46 &&& 31)) &&& (1 : Int32)) = x53 then f_X11_isSo_J61 a0 l1 l2 s2 μ else some (.inr (.inl ())) else f_X11_isSo_J61 a0 l1 l2 s2 μ
noncomputable def f_X11_isSo (a0 : Nat) (l1 : Int32) (l2 : Int32) (μ : Mm) : Option Int32 :=
  if (mm_K μ a0).1 = 12 then (whl (f_X11_isSo_L2 a0 l1 l2 μ) (0 : Int32)).bind (sm (fun b2 => some (0 : Int32)) (fun b2 => some (1 : Int32))) else none
abbrev Rn_X11_isSo (G : Gv) (Q : Option Value → Mm → Prop) (pc : Nat) (lv : List (Nat × Value)) (st : List Value) (μ : Mm) : Prop := Rn G RX11 cX11_isSo 4 (some .boolean) "isSo" (rmd 1 0 0) (Zm G 0 0 Q) 0 0 pc lv st μ
set_option maxRecDepth 100000 in
set_option maxHeartbeats 4000000 in
theorem m_X11_isSo {G : Gv} (a0 : Nat) (l1 : Int32) (l2 : Int32) (μ : Mm) {r : Int32} (hx : f_X11_isSo a0 l1 l2 μ = some r) : Mt G yX11_isSo cX11_isSo 4 (some .boolean) 1 0 0 [.ref a0, .int l1, .int l2] μ (fun v μ' => v = some (.int r) ∧ μ' = μ) := by
  refine Mt.of (by decide) (Nat.le_of_ble_eq_true rfl) ?_
  show Rn_X11_isSo G (fun v μ' => v = some (.int r) ∧ μ' = μ) 0 [(0, .ref a0), (1, .int l1), (2, .int l2)] [] μ
  obtain ⟨_, h⟩ := Sat_ifp (show Sat (f_X11_isSo a0 l1 l2 μ) (fun x => x = r) from ⟨_, hx, rfl⟩)
  refine r_iconst (v := 0) dX11_isSo_0 (by decide) ?_
  refine r_istore_n (lv' := [(3, .int (0 : Int32)), (0, .ref a0), (1, .int l1), (2, .int l2)]) dX11_isSo_1 rfl (by decide) rfl ?_
  refine r_sub (lv' := [(0, .ref a0), (1, .int l1), (2, .int l2), (3, .int (0 : Int32))]) [1, 2, 3, 0] rfl ?_
  refine whl_K (s0 := ((0 : Int32) : Int32)) (RR := fun (s2 : Int32) => Rn_X11_isSo G (fun v μ' => v = some (.int r) ∧ μ' = μ) 2 [(0, .ref a0), (1, .int l1), (2, .int l2), (3, .int s2)] [] μ) ?_ (Sat_bindK h)
  intro s2 K2 hI2 hX2 h
  have J61 : ∀ (l3_61 : Int32), Sat (f_X11_isSo_J61 a0 l1 l2 l3_61 μ) K2 → Rn_X11_isSo G (fun v μ' => v = some (.int r) ∧ μ' = μ) 61 [(0, .ref a0), (1, .int l1), (2, .int l2), (3, .int l3_61)] [] μ := by
    intro l3_61 h
    obtain ⟨v61, e61, h⟩ := Sat_bind h
    refine r_iinc (j := 3) (v := v61) (lv' := [(3, .int v61), (0, .ref a0), (1, .int l1), (2, .int l2)]) dX11_isSo_61 rfl (iinc_v e61 (by decide)) (by decide) rfl ?_
    refine r_goto 2 dX11_isSo_64 (by decide) ?_
    exact r_sub [1, 2, 3, 0] rfl (hI2 _ (Sat_some h))
  refine r_iload_n dX11_isSo_2 3 rfl ?_
  refine r_aload_n dX11_isSo_3 0 rfl ?_
  obtain ⟨x4, e4, h⟩ := Sat_bind h
  refine r_getI fk_X11_244 rfl e4 dX11_isSo_4 ?_
  refine r_icmp_ge 67 dX11_isSo_7 (by decide) (fun c7 => ?_) (fun c7 => ?_)
  · have h := Sat_pos c7 h
    have h := hX2 _ (Sat_some h)
    refine r_iconst (v := 1) dX11_isSo_67 (by decide) ?_
    exact r_zreturn rfl (by decide) (by rw [← Sat_eq h]; exact ⟨rfl, rfl⟩) dX11_isSo_68
  · have h := Sat_neg c7 h
    refine r_aload_n dX11_isSo_10 0 rfl ?_
    obtain ⟨x11, e11, h⟩ := Sat_bind h
    refine r_getP fk_X11_94 rfl e11 dX11_isSo_11 ?_
    refine r_iload_n dX11_isSo_14 3 rfl ?_
    obtain ⟨x15, e15, h⟩ := Sat_bind h
    refine r_iaload e15 dX11_isSo_15 ?_
    refine r_iload_n dX11_isSo_16 1 rfl ?_
    refine r_icmp_ne 61 dX11_isSo_17 (by decide) (fun c17 => ?_) (fun c17 => ?_)
    · have h := Sat_neg c17 h
      exact r_sub [0, 1, 2, 3] rfl (J61 s2 h)
    · have h := Sat_pos c17 h
      refine r_aload_n dX11_isSo_20 0 rfl ?_
      obtain ⟨x21, e21, h⟩ := Sat_bind h
      refine r_getP fk_X11_91 rfl e21 dX11_isSo_21 ?_
      refine r_iload_n dX11_isSo_24 3 rfl ?_
      obtain ⟨x25, e25, h⟩ := Sat_bind h
      refine r_iaload e25 dX11_isSo_25 ?_
      refine r_iload_n dX11_isSo_26 2 rfl ?_
      refine r_icmp_gt 61 dX11_isSo_27 (by decide) (fun c27 => ?_) (fun c27 => ?_)
      · have h := Sat_pos c27 h
        exact r_sub [0, 1, 2, 3] rfl (J61 s2 h)
      · have h := Sat_neg c27 h
        refine r_aload_n dX11_isSo_30 0 rfl ?_
        obtain ⟨x31, e31, h⟩ := Sat_bind h
        refine r_getP fk_X11_76 rfl e31 dX11_isSo_31 ?_
        refine r_aload_n dX11_isSo_34 0 rfl ?_
        obtain ⟨x35, e35, h⟩ := Sat_bind h
        refine r_getP fk_X11_97 rfl e35 dX11_isSo_35 ?_
        refine r_iload_n dX11_isSo_38 3 rfl ?_
        obtain ⟨x39, e39, h⟩ := Sat_bind h
        refine r_iaload e39 dX11_isSo_39 ?_
        obtain ⟨x40, e40, h⟩ := Sat_bind h
        refine r_iaload e40 dX11_isSo_40 ?_
        refine r_aload_n dX11_isSo_41 0 rfl ?_
        obtain ⟨x42, e42, h⟩ := Sat_bind h
        refine r_getP fk_X11_100 rfl e42 dX11_isSo_42 ?_
        refine r_iload_n dX11_isSo_45 3 rfl ?_
        obtain ⟨x46, e46, h⟩ := Sat_bind h
        refine r_iaload e46 dX11_isSo_46 ?_
        refine r_ishr dX11_isSo_47 ?_
        refine r_iconst (v := 1) dX11_isSo_48 (by decide) ?_
        refine r_iand dX11_isSo_49 ?_
        refine r_aload_n dX11_isSo_50 0 rfl ?_
        refine r_iload_n dX11_isSo_51 3 rfl ?_
        refine r_iload_n dX11_isSo_52 2 rfl ?_
        obtain ⟨x53, e53, h⟩ := Sat_bind h
        refine r_cV (t := 12) [.int s2, .int l2] [.int ((x40 >>> (x46 &&& 31)) &&& (1 : Int32))] (m_X11_knewAt a0 s2 l2 μ e53) ck_X11_knewAt lk_X11_379 in_X11_knewAt se_X11_knewAt (kd_of e53) ⟨rfl, by decide, by decide⟩ rfl rfl (Nat.le_of_ble_eq_true rfl) ⟨by decide, by decide⟩ ⟨Nat.zero_le _, Nat.zero_le _⟩ dX11_isSo_53 ?_
        refine r_icmp_eq 61 dX11_isSo_56 (by decide) (fun c56 => ?_) (fun c56 => ?_)
        · have h := Sat_pos c56 h
          exact r_sub [0, 1, 2, 3] rfl (J61 s2 h)
        · have h := Sat_neg c56 h
          have h := hX2 _ (Sat_some h)
          refine r_iconst (v := 0) dX11_isSo_59 (by decide) ?_
          exact r_zreturn rfl (by decide) (by rw [← Sat_eq h]; exact ⟨rfl, rfl⟩) dX11_isSo_60
theorem dX11_fits_0 : decode cX11_fits 0 = .ok (.iconst (-1), 1) := by decide +kernel
theorem dX11_fits_1 : decode cX11_fits 1 = .ok (.istore 4, 2) := by decide +kernel
theorem dX11_fits_3 : decode cX11_fits 3 = .ok (.iconst 0, 1) := by decide +kernel
theorem dX11_fits_4 : decode cX11_fits 4 = .ok (.istore 5, 2) := by decide +kernel
theorem dX11_fits_6 : decode cX11_fits 6 = .ok (.iload 5, 2) := by decide +kernel
theorem dX11_fits_8 : decode cX11_fits 8 = .ok (.aload_n 0, 1) := by decide +kernel
theorem dX11_fits_9 : decode cX11_fits 9 = .ok (.getfield 244, 3) := by decide +kernel
theorem dX11_fits_12 : decode cX11_fits 12 = .ok (.if_icmp .ge 41, 3) := by decide +kernel
theorem dX11_fits_15 : decode cX11_fits 15 = .ok (.aload_n 0, 1) := by decide +kernel
theorem dX11_fits_16 : decode cX11_fits 16 = .ok (.getfield 91, 3) := by decide +kernel
theorem dX11_fits_19 : decode cX11_fits 19 = .ok (.iload 5, 2) := by decide +kernel
theorem dX11_fits_21 : decode cX11_fits 21 = .ok (.iaload, 1) := by decide +kernel
theorem dX11_fits_22 : decode cX11_fits 22 = .ok (.iload_n 3, 1) := by decide +kernel
theorem dX11_fits_23 : decode cX11_fits 23 = .ok (.if_icmp .gt 24, 3) := by decide +kernel
theorem dX11_fits_26 : decode cX11_fits 26 = .ok (.aload_n 0, 1) := by decide +kernel
theorem dX11_fits_27 : decode cX11_fits 27 = .ok (.getfield 94, 3) := by decide +kernel
theorem dX11_fits_30 : decode cX11_fits 30 = .ok (.iload 5, 2) := by decide +kernel
theorem dX11_fits_32 : decode cX11_fits 32 = .ok (.iaload, 1) := by decide +kernel
theorem dX11_fits_33 : decode cX11_fits 33 = .ok (.iload 4, 2) := by decide +kernel
theorem dX11_fits_35 : decode cX11_fits 35 = .ok (.if_icmp .le 12, 3) := by decide +kernel
theorem dX11_fits_38 : decode cX11_fits 38 = .ok (.aload_n 0, 1) := by decide +kernel
theorem dX11_fits_39 : decode cX11_fits 39 = .ok (.getfield 94, 3) := by decide +kernel
theorem dX11_fits_42 : decode cX11_fits 42 = .ok (.iload 5, 2) := by decide +kernel
theorem dX11_fits_44 : decode cX11_fits 44 = .ok (.iaload, 1) := by decide +kernel
theorem dX11_fits_45 : decode cX11_fits 45 = .ok (.istore 4, 2) := by decide +kernel
theorem dX11_fits_47 : decode cX11_fits 47 = .ok (.iinc 5 1, 3) := by decide +kernel
theorem dX11_fits_50 : decode cX11_fits 50 = .ok (.goto (-44), 3) := by decide +kernel
theorem dX11_fits_53 : decode cX11_fits 53 = .ok (.aload_n 0, 1) := by decide +kernel
theorem dX11_fits_54 : decode cX11_fits 54 = .ok (.invokevirtual 353, 3) := by decide +kernel
theorem dX11_fits_57 : decode cX11_fits 57 = .ok (.iconst 0, 1) := by decide +kernel
theorem dX11_fits_58 : decode cX11_fits 58 = .ok (.istore 5, 2) := by decide +kernel
theorem dX11_fits_60 : decode cX11_fits 60 = .ok (.iload 5, 2) := by decide +kernel
theorem dX11_fits_62 : decode cX11_fits 62 = .ok (.iload 4, 2) := by decide +kernel
theorem dX11_fits_64 : decode cX11_fits 64 = .ok (.if_icmp .gt 39, 3) := by decide +kernel
theorem dX11_fits_67 : decode cX11_fits 67 = .ok (.aload_n 0, 1) := by decide +kernel
theorem dX11_fits_68 : decode cX11_fits 68 = .ok (.lload_n 1, 1) := by decide +kernel
theorem dX11_fits_69 : decode cX11_fits 69 = .ok (.iload 5, 2) := by decide +kernel
theorem dX11_fits_71 : decode cX11_fits 71 = .ok (.bipush 7, 2) := by decide +kernel
theorem dX11_fits_73 : decode cX11_fits 73 = .ok (.invokevirtual 356, 3) := by decide +kernel
theorem dX11_fits_76 : decode cX11_fits 76 = .ok (.aload_n 0, 1) := by decide +kernel
theorem dX11_fits_77 : decode cX11_fits 77 = .ok (.iload 5, 2) := by decide +kernel
theorem dX11_fits_79 : decode cX11_fits 79 = .ok (.iload_n 3, 1) := by decide +kernel
theorem dX11_fits_80 : decode cX11_fits 80 = .ok (.invokevirtual 382, 3) := by decide +kernel
theorem dX11_fits_83 : decode cX11_fits 83 = .ok (.ifCond .ne 5, 3) := by decide +kernel
theorem dX11_fits_86 : decode cX11_fits 86 = .ok (.iconst 0, 1) := by decide +kernel
theorem dX11_fits_87 : decode cX11_fits 87 = .ok (.ireturn, 1) := by decide +kernel
theorem dX11_fits_88 : decode cX11_fits 88 = .ok (.aload_n 0, 1) := by decide +kernel
theorem dX11_fits_89 : decode cX11_fits 89 = .ok (.lload_n 1, 1) := by decide +kernel
theorem dX11_fits_90 : decode cX11_fits 90 = .ok (.iload 5, 2) := by decide +kernel
theorem dX11_fits_92 : decode cX11_fits 92 = .ok (.bipush 7, 2) := by decide +kernel
theorem dX11_fits_94 : decode cX11_fits 94 = .ok (.invokevirtual 360, 3) := by decide +kernel
theorem dX11_fits_97 : decode cX11_fits 97 = .ok (.iinc 5 1, 3) := by decide +kernel
theorem dX11_fits_100 : decode cX11_fits 100 = .ok (.goto (-40), 3) := by decide +kernel
theorem dX11_fits_103 : decode cX11_fits 103 = .ok (.iconst 1, 1) := by decide +kernel
theorem dX11_fits_104 : decode cX11_fits 104 = .ok (.ireturn, 1) := by decide +kernel
noncomputable def f_X11_fits_L60 (a0 : Nat) (l1 : Int64) (l3 : Int32) (l4 : Int32) (s60 : Int32 × Mm) : Option ((Int32 × Mm) ⊕ ((Mm) ⊕ (Mm))) :=
  if l4 < s60.1 then some (.inr (.inr s60.2)) else (f_X11_byDay a0 l1 s60.1 (7 : Int32) s60.2).bind fun x73 => (f_X11_isSo a0 s60.1 l3 x73).bind fun x80 => if x80 = 0 then some (.inr (.inl x73)) else (f_X11_byNight a0 l1 s60.1 (7 : Int32) x73).bind fun x94 => (some (s60.1 + (1 : Int32))).bind fun v97 => some (.inl (v97, x94))
noncomputable def f_X11_fits_J53 (a0 : Nat) (l1 : Int64) (l3 : Int32) (l4 : Int32) (μ : Mm) : Option (Int32 × Mm) :=
  (f_X11_forget a0 μ).bind fun x54 => (whl (f_X11_fits_L60 a0 l1 l3 l4) ((0 : Int32), x54)).bind (sm (fun b60 => some ((0 : Int32), b60)) (fun b60 => some ((1 : Int32), b60)))
noncomputable def f_X11_fits_J47 (a0 : Nat) (l1 : Int64) (l3 : Int32) (l4 : Int32) (l5 : Int32) (μ : Mm) : Option ((Int32 × Int32) ⊕ (Int32)) :=
  (some (l5 + (1 : Int32))).bind fun v47 => some (.inl (l4, v47))
noncomputable def f_X11_fits_L6 (a0 : Nat) (l1 : Int64) (l3 : Int32) (μ : Mm) (s6 : Int32 × Int32) : Option ((Int32 × Int32) ⊕ (Int32)) :=
  (gf_I 12 46 a0 μ).bind fun x9 => if x9 ≤ s6.2 then some (.inr s6.1) else (gf_P 12 49 a0 μ).bind fun x16 => (ga_I x16 s6.2 μ).bind fun x21 => if l3 < x21 then f_X11_fits_J47 a0 l1 l3 s6.1 s6.2 μ else (gf_P 12 50 a0 μ).bind fun x27 => (ga_I x27 s6.2 μ).bind fun x32 => if x32 ≤ s6.1 then f_X11_fits_J47 a0 l1 l3 s6.1 s6.2 μ else (gf_P 12 50 a0 μ).bind fun x39 => (ga_I x39 s6.2 μ).bind fun x44 => f_X11_fits_J47 a0 l1 l3 x44 s6.2 μ
noncomputable def f_X11_fits (a0 : Nat) (l1 : Int64) (l3 : Int32) (μ : Mm) : Option (Int32 × Mm) :=
  if (mm_K μ a0).1 = 12 then (whl (f_X11_fits_L6 a0 l1 l3 μ) ((-1 : Int32), (0 : Int32))).bind (fun b6 => f_X11_fits_J53 a0 l1 l3 b6 μ) else none
abbrev Rn_X11_fits (G : Gv) (Q : Option Value → Mm → Prop) (pc : Nat) (lv : List (Nat × Value)) (st : List Value) (μ : Mm) : Prop := Rn G RX11 cX11_fits 6 (some .boolean) "fits" (rmd 3 0 0) (Zm G 0 0 Q) 0 0 pc lv st μ
set_option maxRecDepth 100000 in
set_option maxHeartbeats 4000000 in
theorem m_X11_fits {G : Gv} (a0 : Nat) (l1 : Int64) (l3 : Int32) (μ : Mm) {r : (Int32 × Mm)} (hx : f_X11_fits a0 l1 l3 μ = some r) : Mt G yX11_fits cX11_fits 6 (some .boolean) 3 0 0 [.ref a0, .long l1, .int l3] μ (fun v μ' => v = some (.int r.1) ∧ μ' = r.2) := by
  refine Mt.of (by decide) (Nat.le_of_ble_eq_true rfl) ?_
  show Rn_X11_fits G (fun v μ' => v = some (.int r.1) ∧ μ' = r.2) 0 [(0, .ref a0), (1, .long l1), (3, .int l3)] [] μ
  obtain ⟨_, h⟩ := Sat_ifp (show Sat (f_X11_fits a0 l1 l3 μ) (fun x => x = r) from ⟨_, hx, rfl⟩)
  have J53 : ∀ (a0_53 : Nat) (l1_53 : Int64) (l3_53 : Int32) (l4_53 : Int32) (μ_53 : Mm), Sat (f_X11_fits_J53 a0_53 l1_53 l3_53 l4_53 μ_53) (fun x => x = r) → Rn_X11_fits G (fun v μ' => v = some (.int r.1) ∧ μ' = r.2) 53 [(0, .ref a0_53), (1, .long l1_53), (3, .int l3_53), (4, .int l4_53)] [] μ_53 := by
    intro a0_53 l1_53 l3_53 l4_53 μ_53 h
    refine r_aload_n dX11_fits_53 0 rfl ?_
    obtain ⟨x54, e54, h⟩ := Sat_bind h
    refine r_cV (t := 12) [] [] (m_X11_forget a0_53 μ_53 e54) ck_X11_forget lk_X11_353 in_X11_forget se_X11_forget (kd_of e54) ⟨rfl, by decide, by decide⟩ rfl rfl (Nat.le_of_ble_eq_true rfl) ⟨by decide, by decide⟩ ⟨Nat.zero_le _, Nat.zero_le _⟩ dX11_fits_54 ?_
    refine r_iconst (v := 0) dX11_fits_57 (by decide) ?_
    refine r_istore (lv' := [(5, .int (0 : Int32)), (0, .ref a0_53), (1, .long l1_53), (3, .int l3_53), (4, .int l4_53)]) dX11_fits_58 (by decide) rfl ?_
    refine r_sub (lv' := [(0, .ref a0_53), (1, .long l1_53), (3, .int l3_53), (4, .int l4_53), (5, .int (0 : Int32))]) [1, 2, 3, 4, 0] rfl ?_
    refine whl_K (s0 := (((0 : Int32), x54) : Int32 × Mm)) (RR := fun (s60 : Int32 × Mm) => Rn_X11_fits G (fun v μ' => v = some (.int r.1) ∧ μ' = r.2) 60 [(0, .ref a0_53), (1, .long l1_53), (3, .int l3_53), (4, .int l4_53), (5, .int s60.1)] [] s60.2) ?_ (Sat_bindK h)
    intro s60 K60 hI60 hX60 h
    refine r_iload dX11_fits_60 4 rfl ?_
    refine r_iload dX11_fits_62 3 rfl ?_
    refine r_icmp_gt 103 dX11_fits_64 (by decide) (fun c64 => ?_) (fun c64 => ?_)
    · have h := Sat_pos c64 h
      have h := hX60 _ (Sat_some h)
      refine r_iconst (v := 1) dX11_fits_103 (by decide) ?_
      exact r_zreturn rfl (by decide) (by rw [← Sat_eq h]; exact ⟨rfl, rfl⟩) dX11_fits_104
    · have h := Sat_neg c64 h
      refine r_aload_n dX11_fits_67 0 rfl ?_
      refine r_lload_n dX11_fits_68 1 rfl ?_
      refine r_iload dX11_fits_69 4 rfl ?_
      refine r_bipush (v := 7) dX11_fits_71 (by decide) ?_
      obtain ⟨x73, e73, h⟩ := Sat_bind h
      refine r_cV (t := 12) [.long l1_53, .int s60.1, .int (7 : Int32)] [] (m_X11_byDay a0_53 l1_53 s60.1 (7 : Int32) s60.2 e73) ck_X11_byDay lk_X11_356 in_X11_byDay se_X11_byDay (kd_of e73) ⟨rfl, by decide, by decide⟩ rfl rfl (Nat.le_of_ble_eq_true rfl) ⟨by decide, by decide⟩ ⟨Nat.zero_le _, Nat.zero_le _⟩ dX11_fits_73 ?_
      refine r_aload_n dX11_fits_76 0 rfl ?_
      refine r_iload dX11_fits_77 4 rfl ?_
      refine r_iload_n dX11_fits_79 2 rfl ?_
      obtain ⟨x80, e80, h⟩ := Sat_bind h
      refine r_cV (t := 12) [.int s60.1, .int l3_53] [] (m_X11_isSo a0_53 s60.1 l3_53 x73 e80) ck_X11_isSo lk_X11_382 in_X11_isSo se_X11_isSo (kd_of e80) ⟨rfl, by decide, by decide⟩ rfl rfl (Nat.le_of_ble_eq_true rfl) ⟨by decide, by decide⟩ ⟨Nat.zero_le _, Nat.zero_le _⟩ dX11_fits_80 ?_
      refine r_if_ne 88 dX11_fits_83 (by decide) (fun c83 => ?_) (fun c83 => ?_)
      · have h := Sat_neg c83 h
        refine r_aload_n dX11_fits_88 0 rfl ?_
        refine r_lload_n dX11_fits_89 1 rfl ?_
        refine r_iload dX11_fits_90 4 rfl ?_
        refine r_bipush (v := 7) dX11_fits_92 (by decide) ?_
        obtain ⟨x94, e94, h⟩ := Sat_bind h
        refine r_cV (t := 12) [.long l1_53, .int s60.1, .int (7 : Int32)] [] (m_X11_byNight a0_53 l1_53 s60.1 (7 : Int32) x73 e94) ck_X11_byNight lk_X11_360 in_X11_byNight se_X11_byNight (kd_of e94) ⟨rfl, by decide, by decide⟩ rfl rfl (Nat.le_of_ble_eq_true rfl) ⟨by decide, by decide⟩ ⟨Nat.zero_le _, Nat.zero_le _⟩ dX11_fits_94 ?_
        obtain ⟨v97, e97, h⟩ := Sat_bind h
        refine r_iinc (j := 4) (v := v97) (lv' := [(5, .int v97), (0, .ref a0_53), (1, .long l1_53), (3, .int l3_53), (4, .int l4_53)]) dX11_fits_97 rfl (iinc_v e97 (by decide)) (by decide) rfl ?_
        refine r_goto 60 dX11_fits_100 (by decide) ?_
        exact r_sub [1, 2, 3, 4, 0] rfl (hI60 _ (Sat_some h))
      · have h := Sat_pos c83 h
        have h := hX60 _ (Sat_some h)
        refine r_iconst (v := 0) dX11_fits_86 (by decide) ?_
        exact r_zreturn rfl (by decide) (by rw [← Sat_eq h]; exact ⟨rfl, rfl⟩) dX11_fits_87
  refine r_iconst (v := -1) dX11_fits_0 (by decide) ?_
  refine r_istore (lv' := [(4, .int (-1 : Int32)), (0, .ref a0), (1, .long l1), (3, .int l3)]) dX11_fits_1 (by decide) rfl ?_
  refine r_iconst (v := 0) dX11_fits_3 (by decide) ?_
  refine r_istore (lv' := [(5, .int (0 : Int32)), (4, .int (-1 : Int32)), (0, .ref a0), (1, .long l1), (3, .int l3)]) dX11_fits_4 (by decide) rfl ?_
  refine r_sub (lv' := [(0, .ref a0), (1, .long l1), (3, .int l3), (4, .int (-1 : Int32)), (5, .int (0 : Int32))]) [2, 3, 4, 1, 0] rfl ?_
  refine whl_K (s0 := (((-1 : Int32), (0 : Int32)) : Int32 × Int32)) (RR := fun (s6 : Int32 × Int32) => Rn_X11_fits G (fun v μ' => v = some (.int r.1) ∧ μ' = r.2) 6 [(0, .ref a0), (1, .long l1), (3, .int l3), (4, .int s6.1), (5, .int s6.2)] [] μ) ?_ (Sat_bindK h)
  intro s6 K6 hI6 hX6 h
  have J47 : ∀ (l4_47 : Int32) (l5_47 : Int32), Sat (f_X11_fits_J47 a0 l1 l3 l4_47 l5_47 μ) K6 → Rn_X11_fits G (fun v μ' => v = some (.int r.1) ∧ μ' = r.2) 47 [(0, .ref a0), (1, .long l1), (3, .int l3), (4, .int l4_47), (5, .int l5_47)] [] μ := by
    intro l4_47 l5_47 h
    obtain ⟨v47, e47, h⟩ := Sat_bind h
    refine r_iinc (j := 4) (v := v47) (lv' := [(5, .int v47), (0, .ref a0), (1, .long l1), (3, .int l3), (4, .int l4_47)]) dX11_fits_47 rfl (iinc_v e47 (by decide)) (by decide) rfl ?_
    refine r_goto 6 dX11_fits_50 (by decide) ?_
    exact r_sub [1, 2, 3, 4, 0] rfl (hI6 _ (Sat_some h))
  refine r_iload dX11_fits_6 4 rfl ?_
  refine r_aload_n dX11_fits_8 0 rfl ?_
  obtain ⟨x9, e9, h⟩ := Sat_bind h
  refine r_getI fk_X11_244 rfl e9 dX11_fits_9 ?_
  refine r_icmp_ge 53 dX11_fits_12 (by decide) (fun c12 => ?_) (fun c12 => ?_)
  · have h := Sat_pos c12 h
    have h := hX6 _ (Sat_some h)
    exact r_sub [0, 1, 2, 3] rfl (J53 a0 l1 l3 s6.1 μ h)
  · have h := Sat_neg c12 h
    refine r_aload_n dX11_fits_15 0 rfl ?_
    obtain ⟨x16, e16, h⟩ := Sat_bind h
    refine r_getP fk_X11_91 rfl e16 dX11_fits_16 ?_
    refine r_iload dX11_fits_19 4 rfl ?_
    obtain ⟨x21, e21, h⟩ := Sat_bind h
    refine r_iaload e21 dX11_fits_21 ?_
    refine r_iload_n dX11_fits_22 2 rfl ?_
    refine r_icmp_gt 47 dX11_fits_23 (by decide) (fun c23 => ?_) (fun c23 => ?_)
    · have h := Sat_pos c23 h
      exact r_sub [0, 1, 2, 3, 4] rfl (J47 s6.1 s6.2 h)
    · have h := Sat_neg c23 h
      refine r_aload_n dX11_fits_26 0 rfl ?_
      obtain ⟨x27, e27, h⟩ := Sat_bind h
      refine r_getP fk_X11_94 rfl e27 dX11_fits_27 ?_
      refine r_iload dX11_fits_30 4 rfl ?_
      obtain ⟨x32, e32, h⟩ := Sat_bind h
      refine r_iaload e32 dX11_fits_32 ?_
      refine r_iload dX11_fits_33 3 rfl ?_
      refine r_icmp_le 47 dX11_fits_35 (by decide) (fun c35 => ?_) (fun c35 => ?_)
      · have h := Sat_pos c35 h
        exact r_sub [0, 1, 2, 3, 4] rfl (J47 s6.1 s6.2 h)
      · have h := Sat_neg c35 h
        refine r_aload_n dX11_fits_38 0 rfl ?_
        obtain ⟨x39, e39, h⟩ := Sat_bind h
        refine r_getP fk_X11_94 rfl e39 dX11_fits_39 ?_
        refine r_iload dX11_fits_42 4 rfl ?_
        obtain ⟨x44, e44, h⟩ := Sat_bind h
        refine r_iaload e44 dX11_fits_44 ?_
        refine r_istore (lv' := [(4, .int x44), (0, .ref a0), (1, .long l1), (3, .int l3), (5, .int s6.2)]) dX11_fits_45 (by decide) rfl ?_
        exact r_sub [1, 2, 3, 0, 4] rfl (J47 x44 s6.2 h)
theorem dX11_findFits_0 : decode cX11_findFits 0 = .ok (.iconst 0, 1) := by decide +kernel
theorem dX11_findFits_1 : decode cX11_findFits 1 = .ok (.istore_n 2, 1) := by decide +kernel
theorem dX11_findFits_2 : decode cX11_findFits 2 = .ok (.iconst 0, 1) := by decide +kernel
theorem dX11_findFits_3 : decode cX11_findFits 3 = .ok (.istore_n 3, 1) := by decide +kernel
theorem dX11_findFits_4 : decode cX11_findFits 4 = .ok (.iload_n 3, 1) := by decide +kernel
theorem dX11_findFits_5 : decode cX11_findFits 5 = .ok (.sipush 232, 3) := by decide +kernel
theorem dX11_findFits_8 : decode cX11_findFits 8 = .ok (.if_icmp .ge 16, 3) := by decide +kernel
theorem dX11_findFits_11 : decode cX11_findFits 11 = .ok (.aload_n 0, 1) := by decide +kernel
theorem dX11_findFits_12 : decode cX11_findFits 12 = .ok (.getfield 115, 3) := by decide +kernel
theorem dX11_findFits_15 : decode cX11_findFits 15 = .ok (.iload_n 3, 1) := by decide +kernel
theorem dX11_findFits_16 : decode cX11_findFits 16 = .ok (.lconst 0, 1) := by decide +kernel
theorem dX11_findFits_17 : decode cX11_findFits 17 = .ok (.lastore, 1) := by decide +kernel
theorem dX11_findFits_18 : decode cX11_findFits 18 = .ok (.iinc 3 1, 3) := by decide +kernel
theorem dX11_findFits_21 : decode cX11_findFits 21 = .ok (.goto (-17), 3) := by decide +kernel
theorem dX11_findFits_24 : decode cX11_findFits 24 = .ok (.iconst 0, 1) := by decide +kernel
theorem dX11_findFits_25 : decode cX11_findFits 25 = .ok (.istore_n 3, 1) := by decide +kernel
theorem dX11_findFits_26 : decode cX11_findFits 26 = .ok (.iload_n 3, 1) := by decide +kernel
theorem dX11_findFits_27 : decode cX11_findFits 27 = .ok (.aload_n 0, 1) := by decide +kernel
theorem dX11_findFits_28 : decode cX11_findFits 28 = .ok (.getfield 234, 3) := by decide +kernel
theorem dX11_findFits_31 : decode cX11_findFits 31 = .ok (.if_icmp .ge 47, 3) := by decide +kernel
theorem dX11_findFits_34 : decode cX11_findFits 34 = .ok (.aload_n 0, 1) := by decide +kernel
theorem dX11_findFits_35 : decode cX11_findFits 35 = .ok (.aload_n 0, 1) := by decide +kernel
theorem dX11_findFits_36 : decode cX11_findFits 36 = .ok (.getfield 73, 3) := by decide +kernel
theorem dX11_findFits_39 : decode cX11_findFits 39 = .ok (.iload_n 3, 1) := by decide +kernel
theorem dX11_findFits_40 : decode cX11_findFits 40 = .ok (.laload, 1) := by decide +kernel
theorem dX11_findFits_41 : decode cX11_findFits 41 = .ok (.iload_n 1, 1) := by decide +kernel
theorem dX11_findFits_42 : decode cX11_findFits 42 = .ok (.invokevirtual 385, 3) := by decide +kernel
theorem dX11_findFits_45 : decode cX11_findFits 45 = .ok (.ifCond .ne 6, 3) := by decide +kernel
theorem dX11_findFits_48 : decode cX11_findFits 48 = .ok (.goto 24, 3) := by decide +kernel
theorem dX11_findFits_51 : decode cX11_findFits 51 = .ok (.aload_n 0, 1) := by decide +kernel
theorem dX11_findFits_52 : decode cX11_findFits 52 = .ok (.getfield 115, 3) := by decide +kernel
theorem dX11_findFits_55 : decode cX11_findFits 55 = .ok (.iload_n 3, 1) := by decide +kernel
theorem dX11_findFits_56 : decode cX11_findFits 56 = .ok (.bipush 64, 2) := by decide +kernel
theorem dX11_findFits_58 : decode cX11_findFits 58 = .ok (.idiv, 1) := by decide +kernel
theorem dX11_findFits_59 : decode cX11_findFits 59 = .ok (.dup2, 1) := by decide +kernel
theorem dX11_findFits_60 : decode cX11_findFits 60 = .ok (.laload, 1) := by decide +kernel
theorem dX11_findFits_61 : decode cX11_findFits 61 = .ok (.lconst 1, 1) := by decide +kernel
theorem dX11_findFits_62 : decode cX11_findFits 62 = .ok (.iload_n 3, 1) := by decide +kernel
theorem dX11_findFits_63 : decode cX11_findFits 63 = .ok (.bipush 64, 2) := by decide +kernel
theorem dX11_findFits_65 : decode cX11_findFits 65 = .ok (.irem, 1) := by decide +kernel
theorem dX11_findFits_66 : decode cX11_findFits 66 = .ok (.lshl, 1) := by decide +kernel
theorem dX11_findFits_67 : decode cX11_findFits 67 = .ok (.lor, 1) := by decide +kernel
theorem dX11_findFits_68 : decode cX11_findFits 68 = .ok (.lastore, 1) := by decide +kernel
theorem dX11_findFits_69 : decode cX11_findFits 69 = .ok (.iinc 2 1, 3) := by decide +kernel
theorem dX11_findFits_72 : decode cX11_findFits 72 = .ok (.iinc 3 1, 3) := by decide +kernel
theorem dX11_findFits_75 : decode cX11_findFits 75 = .ok (.goto (-49), 3) := by decide +kernel
theorem dX11_findFits_78 : decode cX11_findFits 78 = .ok (.iload_n 2, 1) := by decide +kernel
theorem dX11_findFits_79 : decode cX11_findFits 79 = .ok (.ireturn, 1) := by decide +kernel
noncomputable def f_X11_findFits_J72 (a0 : Nat) (l1 : Int32) (l2 : Int32) (l3 : Int32) (μ : Mm) : Option ((Int32 × Int32 × Mm) ⊕ (Int32 × Mm)) :=
  (some (l3 + (1 : Int32))).bind fun v72 => some (.inl (l2, v72, μ))
noncomputable def f_X11_findFits_L26 (a0 : Nat) (l1 : Int32) (s26 : Int32 × Int32 × Mm) : Option ((Int32 × Int32 × Mm) ⊕ (Int32 × Mm)) :=
  (gf_I 12 32 a0 s26.2.2).bind fun x28 => if x28 ≤ s26.2.1 then some (.inr (s26.1, s26.2.2)) else (gf_P 12 34 a0 s26.2.2).bind fun x36 => (ga_L x36 s26.2.1 s26.2.2).bind fun x40 => (f_X11_fits a0 x40 l1 s26.2.2).bind fun x42 => if x42.1 = 0 then f_X11_findFits_J72 a0 l1 s26.1 s26.2.1 x42.2 else (gf_P 12 57 a0 x42.2).bind fun x52 => (ga_L x52 (s26.2.1 / (64 : Int32)) x42.2).bind fun x60 => (pa_L x52 (s26.2.1 / (64 : Int32)) (x60 ||| ((1 : Int64) <<< ((s26.2.1 - s26.2.1 / (64 : Int32) * (64 : Int32)).toInt64 &&& 63))) x42.2).bind fun μ68 => (some (s26.1 + (1 : Int32))).bind fun v69 => f_X11_findFits_J72 a0 l1 v69 s26.2.1 μ68
noncomputable def f_X11_findFits_J24 (a0 : Nat) (l1 : Int32) (l2 : Int32) (μ : Mm) : Option (Int32 × Mm) :=
  (whl (f_X11_findFits_L26 a0 l1) (l2, (0 : Int32), μ)).bind (fun b26 => some (b26.1, b26.2))
noncomputable def f_X11_findFits_L4 (a0 : Nat) (l1 : Int32) (l2 : Int32) (s4 : Int32 × Mm) : Option ((Int32 × Mm) ⊕ (Mm)) :=
  if (232 : Int32) ≤ s4.1 then some (.inr s4.2) else (gf_P 12 57 a0 s4.2).bind fun x12 => (pa_L x12 s4.1 (0 : Int64) s4.2).bind fun μ17 => (some (s4.1 + (1 : Int32))).bind fun v18 => some (.inl (v18, μ17))
noncomputable def f_X11_findFits (a0 : Nat) (l1 : Int32) (μ : Mm) : Option (Int32 × Mm) :=
  if (mm_K μ a0).1 = 12 then (whl (f_X11_findFits_L4 a0 l1 (0 : Int32)) ((0 : Int32), μ)).bind (fun b4 => f_X11_findFits_J24 a0 l1 (0 : Int32) b4) else none
abbrev Rn_X11_findFits (G : Gv) (Q : Option Value → Mm → Prop) (pc : Nat) (lv : List (Nat × Value)) (st : List Value) (μ : Mm) : Prop := Rn G RX11 cX11_findFits 4 (some .int) "findFits" (rmd 4 0 0) (Zm G 0 0 Q) 0 0 pc lv st μ
set_option maxRecDepth 100000 in
set_option maxHeartbeats 4000000 in
theorem m_X11_findFits {G : Gv} (a0 : Nat) (l1 : Int32) (μ : Mm) {r : (Int32 × Mm)} (hx : f_X11_findFits a0 l1 μ = some r) : Mt G yX11_findFits cX11_findFits 4 (some .int) 4 0 0 [.ref a0, .int l1] μ (fun v μ' => v = some (.int r.1) ∧ μ' = r.2) := by
  refine Mt.of (by decide) (Nat.le_of_ble_eq_true rfl) ?_
  show Rn_X11_findFits G (fun v μ' => v = some (.int r.1) ∧ μ' = r.2) 0 [(0, .ref a0), (1, .int l1)] [] μ
  obtain ⟨_, h⟩ := Sat_ifp (show Sat (f_X11_findFits a0 l1 μ) (fun x => x = r) from ⟨_, hx, rfl⟩)
  have J24 : ∀ (a0_24 : Nat) (l1_24 : Int32) (l2_24 : Int32) (μ_24 : Mm), Sat (f_X11_findFits_J24 a0_24 l1_24 l2_24 μ_24) (fun x => x = r) → Rn_X11_findFits G (fun v μ' => v = some (.int r.1) ∧ μ' = r.2) 24 [(0, .ref a0_24), (1, .int l1_24), (2, .int l2_24)] [] μ_24 := by
    intro a0_24 l1_24 l2_24 μ_24 h
    refine r_iconst (v := 0) dX11_findFits_24 (by decide) ?_
    refine r_istore_n (lv' := [(3, .int (0 : Int32)), (0, .ref a0_24), (1, .int l1_24), (2, .int l2_24)]) dX11_findFits_25 rfl (by decide) rfl ?_
    refine r_sub (lv' := [(0, .ref a0_24), (1, .int l1_24), (2, .int l2_24), (3, .int (0 : Int32))]) [1, 2, 3, 0] rfl ?_
    refine whl_K (s0 := ((l2_24, (0 : Int32), μ_24) : Int32 × Int32 × Mm)) (RR := fun (s26 : Int32 × Int32 × Mm) => Rn_X11_findFits G (fun v μ' => v = some (.int r.1) ∧ μ' = r.2) 26 [(0, .ref a0_24), (1, .int l1_24), (2, .int s26.1), (3, .int s26.2.1)] [] s26.2.2) ?_ (Sat_bindK h)
    intro s26 K26 hI26 hX26 h
    have J72 : ∀ (l2_72 : Int32) (l3_72 : Int32) (μ_72 : Mm), Sat (f_X11_findFits_J72 a0_24 l1_24 l2_72 l3_72 μ_72) K26 → Rn_X11_findFits G (fun v μ' => v = some (.int r.1) ∧ μ' = r.2) 72 [(0, .ref a0_24), (1, .int l1_24), (2, .int l2_72), (3, .int l3_72)] [] μ_72 := by
      intro l2_72 l3_72 μ_72 h
      obtain ⟨v72, e72, h⟩ := Sat_bind h
      refine r_iinc (j := 3) (v := v72) (lv' := [(3, .int v72), (0, .ref a0_24), (1, .int l1_24), (2, .int l2_72)]) dX11_findFits_72 rfl (iinc_v e72 (by decide)) (by decide) rfl ?_
      refine r_goto 26 dX11_findFits_75 (by decide) ?_
      exact r_sub [1, 2, 3, 0] rfl (hI26 _ (Sat_some h))
    refine r_iload_n dX11_findFits_26 3 rfl ?_
    refine r_aload_n dX11_findFits_27 0 rfl ?_
    obtain ⟨x28, e28, h⟩ := Sat_bind h
    refine r_getI fk_X11_234 rfl e28 dX11_findFits_28 ?_
    refine r_icmp_ge 78 dX11_findFits_31 (by decide) (fun c31 => ?_) (fun c31 => ?_)
    · have h := Sat_pos c31 h
      have h := hX26 _ (Sat_some h)
      refine r_iload_n dX11_findFits_78 2 rfl ?_
      exact r_ireturn rfl (by rw [← Sat_eq h]; exact ⟨rfl, rfl⟩) dX11_findFits_79
    · have h := Sat_neg c31 h
      refine r_aload_n dX11_findFits_34 0 rfl ?_
      refine r_aload_n dX11_findFits_35 0 rfl ?_
      obtain ⟨x36, e36, h⟩ := Sat_bind h
      refine r_getP fk_X11_73 rfl e36 dX11_findFits_36 ?_
      refine r_iload_n dX11_findFits_39 3 rfl ?_
      obtain ⟨x40, e40, h⟩ := Sat_bind h
      refine r_laload e40 dX11_findFits_40 ?_
      refine r_iload_n dX11_findFits_41 1 rfl ?_
      obtain ⟨x42, e42, h⟩ := Sat_bind h
      refine r_cV (t := 12) [.long x40, .int l1_24] [] (m_X11_fits a0_24 x40 l1_24 s26.2.2 e42) ck_X11_fits lk_X11_385 in_X11_fits se_X11_fits (kd_of e42) ⟨rfl, by decide, by decide⟩ rfl rfl (Nat.le_of_ble_eq_true rfl) ⟨by decide, by decide⟩ ⟨Nat.zero_le _, Nat.zero_le _⟩ dX11_findFits_42 ?_
      refine r_if_ne 51 dX11_findFits_45 (by decide) (fun c45 => ?_) (fun c45 => ?_)
      · have h := Sat_neg c45 h
        refine r_aload_n dX11_findFits_51 0 rfl ?_
        obtain ⟨x52, e52, h⟩ := Sat_bind h
        refine r_getP fk_X11_115 rfl e52 dX11_findFits_52 ?_
        refine r_iload_n dX11_findFits_55 3 rfl ?_
        refine r_bipush (v := 64) dX11_findFits_56 (by decide) ?_
        refine r_idiv dX11_findFits_58 (by decide) ?_
        refine r_dup2_11 dX11_findFits_59 rfl rfl ?_
        obtain ⟨x60, e60, h⟩ := Sat_bind h
        refine r_laload e60 dX11_findFits_60 ?_
        refine r_lconst (v := 1) dX11_findFits_61 (by decide) ?_
        refine r_iload_n dX11_findFits_62 3 rfl ?_
        refine r_bipush (v := 64) dX11_findFits_63 (by decide) ?_
        refine r_irem dX11_findFits_65 (by decide) ?_
        refine r_lshl dX11_findFits_66 ?_
        refine r_lor dX11_findFits_67 ?_
        obtain ⟨μ68, e68, h⟩ := Sat_bind h
        refine r_lastore e68 dX11_findFits_68 ?_
        obtain ⟨v69, e69, h⟩ := Sat_bind h
        refine r_iinc (j := 2) (v := v69) (lv' := [(2, .int v69), (0, .ref a0_24), (1, .int l1_24), (3, .int s26.2.1)]) dX11_findFits_69 rfl (iinc_v e69 (by decide)) (by decide) rfl ?_
        exact r_sub [1, 2, 0, 3] rfl (J72 v69 s26.2.1 μ68 h)
      · have h := Sat_pos c45 h
        refine r_goto 72 dX11_findFits_48 (by decide) ?_
        exact r_sub [0, 1, 2, 3] rfl (J72 s26.1 s26.2.1 x42.2 h)
  refine r_iconst (v := 0) dX11_findFits_0 (by decide) ?_
  refine r_istore_n (lv' := [(2, .int (0 : Int32)), (0, .ref a0), (1, .int l1)]) dX11_findFits_1 rfl (by decide) rfl ?_
  refine r_iconst (v := 0) dX11_findFits_2 (by decide) ?_
  refine r_istore_n (lv' := [(3, .int (0 : Int32)), (2, .int (0 : Int32)), (0, .ref a0), (1, .int l1)]) dX11_findFits_3 rfl (by decide) rfl ?_
  refine r_sub (lv' := [(0, .ref a0), (1, .int l1), (2, .int (0 : Int32)), (3, .int (0 : Int32))]) [2, 3, 1, 0] rfl ?_
  refine whl_K (s0 := (((0 : Int32), μ) : Int32 × Mm)) (RR := fun (s4 : Int32 × Mm) => Rn_X11_findFits G (fun v μ' => v = some (.int r.1) ∧ μ' = r.2) 4 [(0, .ref a0), (1, .int l1), (2, .int (0 : Int32)), (3, .int s4.1)] [] s4.2) ?_ (Sat_bindK h)
  intro s4 K4 hI4 hX4 h
  refine r_iload_n dX11_findFits_4 3 rfl ?_
  refine r_sipush (v := 232) dX11_findFits_5 (by decide) ?_
  refine r_icmp_ge 24 dX11_findFits_8 (by decide) (fun c8 => ?_) (fun c8 => ?_)
  · have h := Sat_pos c8 h
    have h := hX4 _ (Sat_some h)
    exact r_sub [0, 1, 2] rfl (J24 a0 l1 (0 : Int32) s4.2 h)
  · have h := Sat_neg c8 h
    refine r_aload_n dX11_findFits_11 0 rfl ?_
    obtain ⟨x12, e12, h⟩ := Sat_bind h
    refine r_getP fk_X11_115 rfl e12 dX11_findFits_12 ?_
    refine r_iload_n dX11_findFits_15 3 rfl ?_
    refine r_lconst (v := 0) dX11_findFits_16 (by decide) ?_
    obtain ⟨μ17, e17, h⟩ := Sat_bind h
    refine r_lastore e17 dX11_findFits_17 ?_
    obtain ⟨v18, e18, h⟩ := Sat_bind h
    refine r_iinc (j := 3) (v := v18) (lv' := [(3, .int v18), (0, .ref a0), (1, .int l1), (2, .int (0 : Int32))]) dX11_findFits_18 rfl (iinc_v e18 (by decide)) (by decide) rfl ?_
    refine r_goto 4 dX11_findFits_21 (by decide) ?_
    exact r_sub [1, 2, 3, 0] rfl (hI4 _ (Sat_some h))
theorem dX11_ask_0 : decode cX11_ask 0 = .ok (.iload_n 1, 1) := by decide +kernel
theorem dX11_ask_1 : decode cX11_ask 1 = .ok (.iconst 0, 1) := by decide +kernel
theorem dX11_ask_2 : decode cX11_ask 2 = .ok (.iconst 2, 1) := by decide +kernel
theorem dX11_ask_3 : decode cX11_ask 3 = .ok (.invokestatic 217, 3) := by decide +kernel
theorem dX11_ask_6 : decode cX11_ask 6 = .ok (.ifCond .ne 6, 3) := by decide +kernel
theorem dX11_ask_9 : decode cX11_ask 9 = .ok (.bipush (-2), 2) := by decide +kernel
theorem dX11_ask_11 : decode cX11_ask 11 = .ok (.ireturn, 1) := by decide +kernel
theorem dX11_ask_12 : decode cX11_ask 12 = .ok (.aload_n 0, 1) := by decide +kernel
theorem dX11_ask_13 : decode cX11_ask 13 = .ok (.sipush 999, 3) := by decide +kernel
theorem dX11_ask_16 : decode cX11_ask 16 = .ok (.invokevirtual 392, 3) := by decide +kernel
theorem dX11_ask_19 : decode cX11_ask 19 = .ok (.istore_n 2, 1) := by decide +kernel
theorem dX11_ask_20 : decode cX11_ask 20 = .ok (.aload_n 0, 1) := by decide +kernel
theorem dX11_ask_21 : decode cX11_ask 21 = .ok (.invokevirtual 398, 3) := by decide +kernel
theorem dX11_ask_24 : decode cX11_ask 24 = .ok (.iload_n 2, 1) := by decide +kernel
theorem dX11_ask_25 : decode cX11_ask 25 = .ok (.istore_n 3, 1) := by decide +kernel
theorem dX11_ask_26 : decode cX11_ask 26 = .ok (.iconst (-1), 1) := by decide +kernel
theorem dX11_ask_27 : decode cX11_ask 27 = .ok (.istore 4, 2) := by decide +kernel
theorem dX11_ask_29 : decode cX11_ask 29 = .ok (.iconst 0, 1) := by decide +kernel
theorem dX11_ask_30 : decode cX11_ask 30 = .ok (.istore 5, 2) := by decide +kernel
theorem dX11_ask_32 : decode cX11_ask 32 = .ok (.iload 5, 2) := by decide +kernel
theorem dX11_ask_34 : decode cX11_ask 34 = .ok (.aload_n 0, 1) := by decide +kernel
theorem dX11_ask_35 : decode cX11_ask 35 = .ok (.getfield 17, 3) := by decide +kernel
theorem dX11_ask_38 : decode cX11_ask 38 = .ok (.iconst 0, 1) := by decide +kernel
theorem dX11_ask_39 : decode cX11_ask 39 = .ok (.iaload, 1) := by decide +kernel
theorem dX11_ask_40 : decode cX11_ask 40 = .ok (.if_icmp .ge 114, 3) := by decide +kernel
theorem dX11_ask_43 : decode cX11_ask 43 = .ok (.iconst 0, 1) := by decide +kernel
theorem dX11_ask_44 : decode cX11_ask 44 = .ok (.istore 6, 2) := by decide +kernel
theorem dX11_ask_46 : decode cX11_ask 46 = .ok (.iload 6, 2) := by decide +kernel
theorem dX11_ask_48 : decode cX11_ask 48 = .ok (.aload_n 0, 1) := by decide +kernel
theorem dX11_ask_49 : decode cX11_ask 49 = .ok (.getfield 17, 3) := by decide +kernel
theorem dX11_ask_52 : decode cX11_ask 52 = .ok (.iconst 1, 1) := by decide +kernel
theorem dX11_ask_53 : decode cX11_ask 53 = .ok (.iaload, 1) := by decide +kernel
theorem dX11_ask_54 : decode cX11_ask 54 = .ok (.if_icmp .ge 94, 3) := by decide +kernel
theorem dX11_ask_57 : decode cX11_ask 57 = .ok (.iconst 0, 1) := by decide +kernel
theorem dX11_ask_58 : decode cX11_ask 58 = .ok (.istore 7, 2) := by decide +kernel
theorem dX11_ask_60 : decode cX11_ask 60 = .ok (.iload 7, 2) := by decide +kernel
theorem dX11_ask_62 : decode cX11_ask 62 = .ok (.bipush 28, 2) := by decide +kernel
theorem dX11_ask_64 : decode cX11_ask 64 = .ok (.if_icmp .ge 78, 3) := by decide +kernel
theorem dX11_ask_67 : decode cX11_ask 67 = .ok (.aload_n 0, 1) := by decide +kernel
theorem dX11_ask_68 : decode cX11_ask 68 = .ok (.getfield 118, 3) := by decide +kernel
theorem dX11_ask_71 : decode cX11_ask 71 = .ok (.bipush 12, 2) := by decide +kernel
theorem dX11_ask_73 : decode cX11_ask 73 = .ok (.iload 5, 2) := by decide +kernel
theorem dX11_ask_75 : decode cX11_ask 75 = .ok (.imul, 1) := by decide +kernel
theorem dX11_ask_76 : decode cX11_ask 76 = .ok (.iload 6, 2) := by decide +kernel
theorem dX11_ask_78 : decode cX11_ask 78 = .ok (.iadd, 1) := by decide +kernel
theorem dX11_ask_79 : decode cX11_ask 79 = .ok (.bipush 28, 2) := by decide +kernel
theorem dX11_ask_81 : decode cX11_ask 81 = .ok (.imul, 1) := by decide +kernel
theorem dX11_ask_82 : decode cX11_ask 82 = .ok (.iload 7, 2) := by decide +kernel
theorem dX11_ask_84 : decode cX11_ask 84 = .ok (.iadd, 1) := by decide +kernel
theorem dX11_ask_85 : decode cX11_ask 85 = .ok (.iaload, 1) := by decide +kernel
theorem dX11_ask_86 : decode cX11_ask 86 = .ok (.istore 8, 2) := by decide +kernel
theorem dX11_ask_88 : decode cX11_ask 88 = .ok (.iload 8, 2) := by decide +kernel
theorem dX11_ask_90 : decode cX11_ask 90 = .ok (.iload_n 2, 1) := by decide +kernel
theorem dX11_ask_91 : decode cX11_ask 91 = .ok (.iload 8, 2) := by decide +kernel
theorem dX11_ask_93 : decode cX11_ask 93 = .ok (.isub, 1) := by decide +kernel
theorem dX11_ask_94 : decode cX11_ask 94 = .ok (.if_icmp .le 8, 3) := by decide +kernel
theorem dX11_ask_97 : decode cX11_ask 97 = .ok (.iload 8, 2) := by decide +kernel
theorem dX11_ask_99 : decode cX11_ask 99 = .ok (.goto 7, 3) := by decide +kernel
theorem dX11_ask_102 : decode cX11_ask 102 = .ok (.iload_n 2, 1) := by decide +kernel
theorem dX11_ask_103 : decode cX11_ask 103 = .ok (.iload 8, 2) := by decide +kernel
theorem dX11_ask_105 : decode cX11_ask 105 = .ok (.isub, 1) := by decide +kernel
theorem dX11_ask_106 : decode cX11_ask 106 = .ok (.istore 9, 2) := by decide +kernel
theorem dX11_ask_108 : decode cX11_ask 108 = .ok (.iload 9, 2) := by decide +kernel
theorem dX11_ask_110 : decode cX11_ask 110 = .ok (.iload_n 3, 1) := by decide +kernel
theorem dX11_ask_111 : decode cX11_ask 111 = .ok (.if_icmp .lt 6, 3) := by decide +kernel
theorem dX11_ask_114 : decode cX11_ask 114 = .ok (.goto 22, 3) := by decide +kernel
theorem dX11_ask_117 : decode cX11_ask 117 = .ok (.iload 9, 2) := by decide +kernel
theorem dX11_ask_119 : decode cX11_ask 119 = .ok (.istore_n 3, 1) := by decide +kernel
theorem dX11_ask_120 : decode cX11_ask 120 = .ok (.bipush 12, 2) := by decide +kernel
theorem dX11_ask_122 : decode cX11_ask 122 = .ok (.iload 5, 2) := by decide +kernel
theorem dX11_ask_124 : decode cX11_ask 124 = .ok (.imul, 1) := by decide +kernel
theorem dX11_ask_125 : decode cX11_ask 125 = .ok (.iload 6, 2) := by decide +kernel
theorem dX11_ask_127 : decode cX11_ask 127 = .ok (.iadd, 1) := by decide +kernel
theorem dX11_ask_128 : decode cX11_ask 128 = .ok (.bipush 28, 2) := by decide +kernel
theorem dX11_ask_130 : decode cX11_ask 130 = .ok (.imul, 1) := by decide +kernel
theorem dX11_ask_131 : decode cX11_ask 131 = .ok (.iload 7, 2) := by decide +kernel
theorem dX11_ask_133 : decode cX11_ask 133 = .ok (.iadd, 1) := by decide +kernel
theorem dX11_ask_134 : decode cX11_ask 134 = .ok (.istore 4, 2) := by decide +kernel
theorem dX11_ask_136 : decode cX11_ask 136 = .ok (.iinc 7 1, 3) := by decide +kernel
theorem dX11_ask_139 : decode cX11_ask 139 = .ok (.goto (-79), 3) := by decide +kernel
theorem dX11_ask_142 : decode cX11_ask 142 = .ok (.iinc 6 1, 3) := by decide +kernel
theorem dX11_ask_145 : decode cX11_ask 145 = .ok (.goto (-99), 3) := by decide +kernel
theorem dX11_ask_148 : decode cX11_ask 148 = .ok (.iinc 5 1, 3) := by decide +kernel
theorem dX11_ask_151 : decode cX11_ask 151 = .ok (.goto (-119), 3) := by decide +kernel
theorem dX11_ask_154 : decode cX11_ask 154 = .ok (.iload 4, 2) := by decide +kernel
theorem dX11_ask_156 : decode cX11_ask 156 = .ok (.iconst (-1), 1) := by decide +kernel
theorem dX11_ask_157 : decode cX11_ask 157 = .ok (.if_icmp .ne 7, 3) := by decide +kernel
theorem dX11_ask_160 : decode cX11_ask 160 = .ok (.iconst (-1), 1) := by decide +kernel
theorem dX11_ask_161 : decode cX11_ask 161 = .ok (.goto 39, 3) := by decide +kernel
theorem dX11_ask_164 : decode cX11_ask 164 = .ok (.iload_n 1, 1) := by decide +kernel
theorem dX11_ask_165 : decode cX11_ask 165 = .ok (.ifCond .ne 14, 3) := by decide +kernel
theorem dX11_ask_168 : decode cX11_ask 168 = .ok (.iload 4, 2) := by decide +kernel
theorem dX11_ask_170 : decode cX11_ask 170 = .ok (.bipush 28, 2) := by decide +kernel
theorem dX11_ask_172 : decode cX11_ask 172 = .ok (.idiv, 1) := by decide +kernel
theorem dX11_ask_173 : decode cX11_ask 173 = .ok (.bipush 12, 2) := by decide +kernel
theorem dX11_ask_175 : decode cX11_ask 175 = .ok (.idiv, 1) := by decide +kernel
theorem dX11_ask_176 : decode cX11_ask 176 = .ok (.goto 24, 3) := by decide +kernel
theorem dX11_ask_179 : decode cX11_ask 179 = .ok (.iload_n 1, 1) := by decide +kernel
theorem dX11_ask_180 : decode cX11_ask 180 = .ok (.iconst 1, 1) := by decide +kernel
theorem dX11_ask_181 : decode cX11_ask 181 = .ok (.if_icmp .ne 14, 3) := by decide +kernel
theorem dX11_ask_184 : decode cX11_ask 184 = .ok (.iload 4, 2) := by decide +kernel
theorem dX11_ask_186 : decode cX11_ask 186 = .ok (.bipush 28, 2) := by decide +kernel
theorem dX11_ask_188 : decode cX11_ask 188 = .ok (.idiv, 1) := by decide +kernel
theorem dX11_ask_189 : decode cX11_ask 189 = .ok (.bipush 12, 2) := by decide +kernel
theorem dX11_ask_191 : decode cX11_ask 191 = .ok (.irem, 1) := by decide +kernel
theorem dX11_ask_192 : decode cX11_ask 192 = .ok (.goto 8, 3) := by decide +kernel
theorem dX11_ask_195 : decode cX11_ask 195 = .ok (.iload 4, 2) := by decide +kernel
theorem dX11_ask_197 : decode cX11_ask 197 = .ok (.bipush 28, 2) := by decide +kernel
theorem dX11_ask_199 : decode cX11_ask 199 = .ok (.irem, 1) := by decide +kernel
theorem dX11_ask_200 : decode cX11_ask 200 = .ok (.ireturn, 1) := by decide +kernel
noncomputable def f_X11_ask_J154 (l1 : Int32) (l4 : Int32) (μ : Mm) : Option (Int32 × Mm) :=
  if l4 = (-1 : Int32) then some ((-1 : Int32), μ) else if l1 = 0 then some ((l4 / (28 : Int32)) / (12 : Int32), μ) else if l1 = (1 : Int32) then some ((l4 / (28 : Int32)) - (l4 / (28 : Int32)) / (12 : Int32) * (12 : Int32), μ) else some (l4 - l4 / (28 : Int32) * (28 : Int32), μ)
noncomputable def f_X11_ask_J148 (a0 : Nat) (l1 : Int32) (l2 : Int32) (l3 : Int32) (l4 : Int32) (l5 : Int32) (μ : Mm) : Option ((Int32 × Int32 × Int32) ⊕ (Int32)) :=
  (some (l5 + (1 : Int32))).bind fun v148 => some (.inl (l3, l4, v148))
noncomputable def f_X11_ask_J142 (a0 : Nat) (l1 : Int32) (l2 : Int32) (l3 : Int32) (l4 : Int32) (l5 : Int32) (l6 : Int32) (μ : Mm) : Option ((Int32 × Int32 × Int32) ⊕ (Int32 × Int32)) :=
  (some (l6 + (1 : Int32))).bind fun v142 => some (.inl (l3, l4, v142))
noncomputable def f_X11_ask_J136 (a0 : Nat) (l1 : Int32) (l2 : Int32) (l3 : Int32) (l4 : Int32) (l5 : Int32) (l6 : Int32) (l7 : Int32) (μ : Mm) : Option ((Int32 × Int32 × Int32) ⊕ (Int32 × Int32)) :=
  (some (l7 + (1 : Int32))).bind fun v136 => some (.inl (l3, l4, v136))
noncomputable def f_X11_ask_J106 (a0 : Nat) (l1 : Int32) (l2 : Int32) (l3 : Int32) (l4 : Int32) (l5 : Int32) (l6 : Int32) (l7 : Int32) (k0 : Int32) (μ : Mm) : Option ((Int32 × Int32 × Int32) ⊕ (Int32 × Int32)) :=
  if k0 < l3 then (some (((((12 : Int32) * l5) + l6) * (28 : Int32)) + l7)).bind fun v134 => f_X11_ask_J136 a0 l1 l2 k0 v134 l5 l6 l7 μ else f_X11_ask_J136 a0 l1 l2 l3 l4 l5 l6 l7 μ
noncomputable def f_X11_ask_L60 (a0 : Nat) (l1 : Int32) (l2 : Int32) (l5 : Int32) (l6 : Int32) (μ : Mm) (s60 : Int32 × Int32 × Int32) : Option ((Int32 × Int32 × Int32) ⊕ (Int32 × Int32)) :=
  if (28 : Int32) ≤ s60.2.2 then some (.inr (s60.1, s60.2.1)) else (gf_P 12 58 a0 μ).bind fun x68 => (ga_I x68 (((((12 : Int32) * l5) + l6) * (28 : Int32)) + s60.2.2) μ).bind fun x85 => if x85 ≤ (l2 - x85) then f_X11_ask_J106 a0 l1 l2 s60.1 s60.2.1 l5 l6 s60.2.2 (l2 - x85) μ else f_X11_ask_J106 a0 l1 l2 s60.1 s60.2.1 l5 l6 s60.2.2 x85 μ
noncomputable def f_X11_ask_L46 (a0 : Nat) (l1 : Int32) (l2 : Int32) (l5 : Int32) (μ : Mm) (s46 : Int32 × Int32 × Int32) : Option ((Int32 × Int32 × Int32) ⊕ (Int32 × Int32)) :=
  (gf_P 12 12 a0 μ).bind fun x49 => (ga_I x49 (1 : Int32) μ).bind fun x53 => if x53 ≤ s46.2.2 then some (.inr (s46.1, s46.2.1)) else (whl (f_X11_ask_L60 a0 l1 l2 l5 s46.2.2 μ) (s46.1, s46.2.1, (0 : Int32))).bind (fun b60 => f_X11_ask_J142 a0 l1 l2 b60.1 b60.2 l5 s46.2.2 μ)
noncomputable def f_X11_ask_L32 (a0 : Nat) (l1 : Int32) (l2 : Int32) (μ : Mm) (s32 : Int32 × Int32 × Int32) : Option ((Int32 × Int32 × Int32) ⊕ (Int32)) :=
  (gf_P 12 12 a0 μ).bind fun x35 => (ga_I x35 (0 : Int32) μ).bind fun x39 => if x39 ≤ s32.2.2 then some (.inr s32.2.1) else (whl (f_X11_ask_L46 a0 l1 l2 s32.2.2 μ) (s32.1, s32.2.1, (0 : Int32))).bind (fun b46 => f_X11_ask_J148 a0 l1 l2 b46.1 b46.2 s32.2.2 μ)
noncomputable def f_X11_ask (a0 : Nat) (l1 : Int32) (μ : Mm) : Option (Int32 × Mm) :=
  if (mm_K μ a0).1 = 12 then (f_X11_in l1 (0 : Int32) (2 : Int32) μ).bind fun x3 => if x3 = 0 then some ((-2 : Int32), μ) else (f_X11_findFits a0 (999 : Int32) μ).bind fun x16 => (f_X11_countFits a0 x16.2).bind fun x21 => (whl (f_X11_ask_L32 a0 l1 x16.1 x21) (x16.1, (-1 : Int32), (0 : Int32))).bind (fun b32 => f_X11_ask_J154 l1 b32 x21) else none
abbrev Rn_X11_ask (G : Gv) (Q : Option Value → Mm → Prop) (pc : Nat) (lv : List (Nat × Value)) (st : List Value) (μ : Mm) : Prop := Rn G RX11 cX11_ask 10 (some .int) "ask" (rmd 5 0 0) (Zm G 0 0 Q) 0 0 pc lv st μ
set_option maxRecDepth 100000 in
set_option maxHeartbeats 4000000 in
theorem m_X11_ask {G : Gv} (a0 : Nat) (l1 : Int32) (μ : Mm) {r : (Int32 × Mm)} (hx : f_X11_ask a0 l1 μ = some r) : Mt G yX11_ask cX11_ask 10 (some .int) 5 0 0 [.ref a0, .int l1] μ (fun v μ' => v = some (.int r.1) ∧ μ' = r.2) := by
  refine Mt.of (by decide) (Nat.le_of_ble_eq_true rfl) ?_
  show Rn_X11_ask G (fun v μ' => v = some (.int r.1) ∧ μ' = r.2) 0 [(0, .ref a0), (1, .int l1)] [] μ
  obtain ⟨_, h⟩ := Sat_ifp (show Sat (f_X11_ask a0 l1 μ) (fun x => x = r) from ⟨_, hx, rfl⟩)
  have J154 : ∀ (l1_154 : Int32) (l4_154 : Int32) (μ_154 : Mm), Sat (f_X11_ask_J154 l1_154 l4_154 μ_154) (fun x => x = r) → Rn_X11_ask G (fun v μ' => v = some (.int r.1) ∧ μ' = r.2) 154 [(1, .int l1_154), (4, .int l4_154)] [] μ_154 := by
    intro l1_154 l4_154 μ_154 h
    refine r_iload dX11_ask_154 1 rfl ?_
    refine r_iconst (v := -1) dX11_ask_156 (by decide) ?_
    refine r_icmp_ne 164 dX11_ask_157 (by decide) (fun c157 => ?_) (fun c157 => ?_)
    · have h := Sat_neg c157 h
      refine r_iload_n dX11_ask_164 0 rfl ?_
      refine r_if_ne 179 dX11_ask_165 (by decide) (fun c165 => ?_) (fun c165 => ?_)
      · have h := Sat_neg c165 h
        refine r_iload_n dX11_ask_179 0 rfl ?_
        refine r_iconst (v := 1) dX11_ask_180 (by decide) ?_
        refine r_icmp_ne 195 dX11_ask_181 (by decide) (fun c181 => ?_) (fun c181 => ?_)
        · have h := Sat_neg c181 h
          refine r_iload dX11_ask_195 1 rfl ?_
          refine r_bipush (v := 28) dX11_ask_197 (by decide) ?_
          refine r_irem dX11_ask_199 (by decide) ?_
          exact r_ireturn rfl (by rw [← Sat_eq h]; exact ⟨rfl, rfl⟩) dX11_ask_200
        · have h := Sat_pos c181 h
          refine r_iload dX11_ask_184 1 rfl ?_
          refine r_bipush (v := 28) dX11_ask_186 (by decide) ?_
          refine r_idiv dX11_ask_188 (by decide) ?_
          refine r_bipush (v := 12) dX11_ask_189 (by decide) ?_
          refine r_irem dX11_ask_191 (by decide) ?_
          refine r_goto 200 dX11_ask_192 (by decide) ?_
          exact r_ireturn rfl (by rw [← Sat_eq h]; exact ⟨rfl, rfl⟩) dX11_ask_200
      · have h := Sat_pos c165 h
        refine r_iload dX11_ask_168 1 rfl ?_
        refine r_bipush (v := 28) dX11_ask_170 (by decide) ?_
        refine r_idiv dX11_ask_172 (by decide) ?_
        refine r_bipush (v := 12) dX11_ask_173 (by decide) ?_
        refine r_idiv dX11_ask_175 (by decide) ?_
        refine r_goto 200 dX11_ask_176 (by decide) ?_
        exact r_ireturn rfl (by rw [← Sat_eq h]; exact ⟨rfl, rfl⟩) dX11_ask_200
    · have h := Sat_pos c157 h
      refine r_iconst (v := -1) dX11_ask_160 (by decide) ?_
      refine r_goto 200 dX11_ask_161 (by decide) ?_
      exact r_ireturn rfl (by rw [← Sat_eq h]; exact ⟨rfl, rfl⟩) dX11_ask_200
  refine r_iload_n dX11_ask_0 1 rfl ?_
  refine r_iconst (v := 0) dX11_ask_1 (by decide) ?_
  refine r_iconst (v := 2) dX11_ask_2 (by decide) ?_
  obtain ⟨x3, e3, h⟩ := Sat_bind h
  refine r_cS [.int l1, .int (0 : Int32), .int (2 : Int32)] [] (m_X11_in l1 (0 : Int32) (2 : Int32) μ e3) ck_X11_in lk_X11_217 st_X11_in rfl rfl (Nat.le_of_ble_eq_true rfl) ⟨by decide, by decide⟩ ⟨Nat.zero_le _, Nat.zero_le _⟩ dX11_ask_3 ?_
  refine r_if_ne 12 dX11_ask_6 (by decide) (fun c6 => ?_) (fun c6 => ?_)
  · have h := Sat_neg c6 h
    refine r_aload_n dX11_ask_12 0 rfl ?_
    refine r_sipush (v := 999) dX11_ask_13 (by decide) ?_
    obtain ⟨x16, e16, h⟩ := Sat_bind h
    refine r_cV (t := 12) [.int (999 : Int32)] [] (m_X11_findFits a0 (999 : Int32) μ e16) ck_X11_findFits lk_X11_392 in_X11_findFits se_X11_findFits (kd_of e16) ⟨rfl, by decide, by decide⟩ rfl rfl (Nat.le_of_ble_eq_true rfl) ⟨by decide, by decide⟩ ⟨Nat.zero_le _, Nat.zero_le _⟩ dX11_ask_16 ?_
    refine r_istore_n (lv' := [(2, .int x16.1), (0, .ref a0), (1, .int l1)]) dX11_ask_19 rfl (by decide) rfl ?_
    refine r_aload_n dX11_ask_20 1 rfl ?_
    obtain ⟨x21, e21, h⟩ := Sat_bind h
    refine r_cV (t := 12) [] [] (m_X11_countFits a0 x16.2 e21) ck_X11_countFits lk_X11_398 in_X11_countFits se_X11_countFits (kd_of e21) ⟨rfl, by decide, by decide⟩ rfl rfl (Nat.le_of_ble_eq_true rfl) ⟨by decide, by decide⟩ ⟨Nat.zero_le _, Nat.zero_le _⟩ dX11_ask_21 ?_
    refine r_iload_n dX11_ask_24 0 rfl ?_
    refine r_istore_n (lv' := [(3, .int x16.1), (2, .int x16.1), (0, .ref a0), (1, .int l1)]) dX11_ask_25 rfl (by decide) rfl ?_
    refine r_iconst (v := -1) dX11_ask_26 (by decide) ?_
    refine r_istore (lv' := [(4, .int (-1 : Int32)), (3, .int x16.1), (2, .int x16.1), (0, .ref a0), (1, .int l1)]) dX11_ask_27 (by decide) rfl ?_
    refine r_iconst (v := 0) dX11_ask_29 (by decide) ?_
    refine r_istore (lv' := [(5, .int (0 : Int32)), (4, .int (-1 : Int32)), (3, .int x16.1), (2, .int x16.1), (0, .ref a0), (1, .int l1)]) dX11_ask_30 (by decide) rfl ?_
    refine r_sub (lv' := [(0, .ref a0), (1, .int l1), (2, .int x16.1), (3, .int x16.1), (4, .int (-1 : Int32)), (5, .int (0 : Int32))]) [4, 5, 3, 2, 1, 0] rfl ?_
    refine whl_K (s0 := ((x16.1, (-1 : Int32), (0 : Int32)) : Int32 × Int32 × Int32)) (RR := fun (s32 : Int32 × Int32 × Int32) => Rn_X11_ask G (fun v μ' => v = some (.int r.1) ∧ μ' = r.2) 32 [(0, .ref a0), (1, .int l1), (2, .int x16.1), (3, .int s32.1), (4, .int s32.2.1), (5, .int s32.2.2)] [] x21) ?_ (Sat_bindK h)
    intro s32 K32 hI32 hX32 h
    have J148 : ∀ (l3_148 : Int32) (l4_148 : Int32) (l5_148 : Int32), Sat (f_X11_ask_J148 a0 l1 x16.1 l3_148 l4_148 l5_148 x21) K32 → Rn_X11_ask G (fun v μ' => v = some (.int r.1) ∧ μ' = r.2) 148 [(0, .ref a0), (1, .int l1), (2, .int x16.1), (3, .int l3_148), (4, .int l4_148), (5, .int l5_148)] [] x21 := by
      intro l3_148 l4_148 l5_148 h
      obtain ⟨v148, e148, h⟩ := Sat_bind h
      refine r_iinc (j := 5) (v := v148) (lv' := [(5, .int v148), (0, .ref a0), (1, .int l1), (2, .int x16.1), (3, .int l3_148), (4, .int l4_148)]) dX11_ask_148 rfl (iinc_v e148 (by decide)) (by decide) rfl ?_
      refine r_goto 32 dX11_ask_151 (by decide) ?_
      exact r_sub [1, 2, 3, 4, 5, 0] rfl (hI32 _ (Sat_some h))
    refine r_iload dX11_ask_32 5 rfl ?_
    refine r_aload_n dX11_ask_34 0 rfl ?_
    obtain ⟨x35, e35, h⟩ := Sat_bind h
    refine r_getP fk_X11_17 rfl e35 dX11_ask_35 ?_
    refine r_iconst (v := 0) dX11_ask_38 (by decide) ?_
    obtain ⟨x39, e39, h⟩ := Sat_bind h
    refine r_iaload e39 dX11_ask_39 ?_
    refine r_icmp_ge 154 dX11_ask_40 (by decide) (fun c40 => ?_) (fun c40 => ?_)
    · have h := Sat_pos c40 h
      have h := hX32 _ (Sat_some h)
      exact r_sub [1, 4] rfl (J154 l1 s32.2.1 x21 h)
    · have h := Sat_neg c40 h
      refine r_iconst (v := 0) dX11_ask_43 (by decide) ?_
      refine r_istore (lv' := [(6, .int (0 : Int32)), (0, .ref a0), (1, .int l1), (2, .int x16.1), (3, .int s32.1), (4, .int s32.2.1), (5, .int s32.2.2)]) dX11_ask_44 (by decide) rfl ?_
      refine r_sub (lv' := [(0, .ref a0), (1, .int l1), (2, .int x16.1), (3, .int s32.1), (4, .int s32.2.1), (5, .int s32.2.2), (6, .int (0 : Int32))]) [1, 2, 3, 4, 5, 6, 0] rfl ?_
      refine whl_K (s0 := ((s32.1, s32.2.1, (0 : Int32)) : Int32 × Int32 × Int32)) (RR := fun (s46 : Int32 × Int32 × Int32) => Rn_X11_ask G (fun v μ' => v = some (.int r.1) ∧ μ' = r.2) 46 [(0, .ref a0), (1, .int l1), (2, .int x16.1), (3, .int s46.1), (4, .int s46.2.1), (5, .int s32.2.2), (6, .int s46.2.2)] [] x21) ?_ (Sat_bindK h)
      intro s46 K46 hI46 hX46 h
      have J142 : ∀ (l3_142 : Int32) (l4_142 : Int32) (l6_142 : Int32), Sat (f_X11_ask_J142 a0 l1 x16.1 l3_142 l4_142 s32.2.2 l6_142 x21) K46 → Rn_X11_ask G (fun v μ' => v = some (.int r.1) ∧ μ' = r.2) 142 [(0, .ref a0), (1, .int l1), (2, .int x16.1), (3, .int l3_142), (4, .int l4_142), (5, .int s32.2.2), (6, .int l6_142)] [] x21 := by
        intro l3_142 l4_142 l6_142 h
        obtain ⟨v142, e142, h⟩ := Sat_bind h
        refine r_iinc (j := 6) (v := v142) (lv' := [(6, .int v142), (0, .ref a0), (1, .int l1), (2, .int x16.1), (3, .int l3_142), (4, .int l4_142), (5, .int s32.2.2)]) dX11_ask_142 rfl (iinc_v e142 (by decide)) (by decide) rfl ?_
        refine r_goto 46 dX11_ask_145 (by decide) ?_
        exact r_sub [1, 2, 3, 4, 5, 6, 0] rfl (hI46 _ (Sat_some h))
      refine r_iload dX11_ask_46 6 rfl ?_
      refine r_aload_n dX11_ask_48 0 rfl ?_
      obtain ⟨x49, e49, h⟩ := Sat_bind h
      refine r_getP fk_X11_17 rfl e49 dX11_ask_49 ?_
      refine r_iconst (v := 1) dX11_ask_52 (by decide) ?_
      obtain ⟨x53, e53, h⟩ := Sat_bind h
      refine r_iaload e53 dX11_ask_53 ?_
      refine r_icmp_ge 148 dX11_ask_54 (by decide) (fun c54 => ?_) (fun c54 => ?_)
      · have h := Sat_pos c54 h
        have h := hX46 _ (Sat_some h)
        exact r_sub [0, 1, 2, 3, 4, 5] rfl (J148 s46.1 s46.2.1 s32.2.2 h)
      · have h := Sat_neg c54 h
        refine r_iconst (v := 0) dX11_ask_57 (by decide) ?_
        refine r_istore (lv' := [(7, .int (0 : Int32)), (0, .ref a0), (1, .int l1), (2, .int x16.1), (3, .int s46.1), (4, .int s46.2.1), (5, .int s32.2.2), (6, .int s46.2.2)]) dX11_ask_58 (by decide) rfl ?_
        refine r_sub (lv' := [(0, .ref a0), (1, .int l1), (2, .int x16.1), (3, .int s46.1), (4, .int s46.2.1), (5, .int s32.2.2), (6, .int s46.2.2), (7, .int (0 : Int32))]) [1, 2, 3, 4, 5, 6, 7, 0] rfl ?_
        refine whl_K (s0 := ((s46.1, s46.2.1, (0 : Int32)) : Int32 × Int32 × Int32)) (RR := fun (s60 : Int32 × Int32 × Int32) => Rn_X11_ask G (fun v μ' => v = some (.int r.1) ∧ μ' = r.2) 60 [(0, .ref a0), (1, .int l1), (2, .int x16.1), (3, .int s60.1), (4, .int s60.2.1), (5, .int s32.2.2), (6, .int s46.2.2), (7, .int s60.2.2)] [] x21) ?_ (Sat_bindK h)
        intro s60 K60 hI60 hX60 h
        have J136 : ∀ (l3_136 : Int32) (l4_136 : Int32) (l7_136 : Int32), Sat (f_X11_ask_J136 a0 l1 x16.1 l3_136 l4_136 s32.2.2 s46.2.2 l7_136 x21) K60 → Rn_X11_ask G (fun v μ' => v = some (.int r.1) ∧ μ' = r.2) 136 [(0, .ref a0), (1, .int l1), (2, .int x16.1), (3, .int l3_136), (4, .int l4_136), (5, .int s32.2.2), (6, .int s46.2.2), (7, .int l7_136)] [] x21 := by
          intro l3_136 l4_136 l7_136 h
          obtain ⟨v136, e136, h⟩ := Sat_bind h
          refine r_iinc (j := 7) (v := v136) (lv' := [(7, .int v136), (0, .ref a0), (1, .int l1), (2, .int x16.1), (3, .int l3_136), (4, .int l4_136), (5, .int s32.2.2), (6, .int s46.2.2)]) dX11_ask_136 rfl (iinc_v e136 (by decide)) (by decide) rfl ?_
          refine r_goto 60 dX11_ask_139 (by decide) ?_
          exact r_sub [1, 2, 3, 4, 5, 6, 7, 0] rfl (hI60 _ (Sat_some h))
        have J106 : ∀ (l3_106 : Int32) (l4_106 : Int32) (l7_106 : Int32) (k0_106 : Int32), Sat (f_X11_ask_J106 a0 l1 x16.1 l3_106 l4_106 s32.2.2 s46.2.2 l7_106 k0_106 x21) K60 → Rn_X11_ask G (fun v μ' => v = some (.int r.1) ∧ μ' = r.2) 106 [(0, .ref a0), (1, .int l1), (2, .int x16.1), (3, .int l3_106), (4, .int l4_106), (5, .int s32.2.2), (6, .int s46.2.2), (7, .int l7_106)] [.int k0_106] x21 := by
          intro l3_106 l4_106 l7_106 k0_106 h
          refine r_istore (lv' := [(9, .int k0_106), (0, .ref a0), (1, .int l1), (2, .int x16.1), (3, .int l3_106), (4, .int l4_106), (5, .int s32.2.2), (6, .int s46.2.2), (7, .int l7_106)]) dX11_ask_106 (by decide) rfl ?_
          refine r_iload dX11_ask_108 0 rfl ?_
          refine r_iload_n dX11_ask_110 4 rfl ?_
          refine r_icmp_lt 117 dX11_ask_111 (by decide) (fun c111 => ?_) (fun c111 => ?_)
          · have h := Sat_pos c111 h
            refine r_iload dX11_ask_117 0 rfl ?_
            refine r_istore_n (lv' := [(3, .int k0_106), (9, .int k0_106), (0, .ref a0), (1, .int l1), (2, .int x16.1), (4, .int l4_106), (5, .int s32.2.2), (6, .int s46.2.2), (7, .int l7_106)]) dX11_ask_119 rfl (by decide) rfl ?_
            refine r_bipush (v := 12) dX11_ask_120 (by decide) ?_
            refine r_iload dX11_ask_122 6 rfl ?_
            refine r_imul dX11_ask_124 ?_
            refine r_iload dX11_ask_125 7 rfl ?_
            refine r_iadd dX11_ask_127 ?_
            refine r_bipush (v := 28) dX11_ask_128 (by decide) ?_
            refine r_imul dX11_ask_130 ?_
            refine r_iload dX11_ask_131 8 rfl ?_
            refine r_iadd dX11_ask_133 ?_
            obtain ⟨v134, e134, h⟩ := Sat_bind h
            refine r_topi (Option.some.inj e134) ?_
            refine r_istore (lv' := [(4, .int v134), (3, .int k0_106), (9, .int k0_106), (0, .ref a0), (1, .int l1), (2, .int x16.1), (5, .int s32.2.2), (6, .int s46.2.2), (7, .int l7_106)]) dX11_ask_134 (by decide) rfl ?_
            exact r_sub [3, 4, 5, 1, 0, 6, 7, 8] rfl (J136 k0_106 v134 l7_106 h)
          · have h := Sat_neg c111 h
            refine r_goto 136 dX11_ask_114 (by decide) ?_
            exact r_sub [1, 2, 3, 4, 5, 6, 7, 8] rfl (J136 l3_106 l4_106 l7_106 h)
        refine r_iload dX11_ask_60 7 rfl ?_
        refine r_bipush (v := 28) dX11_ask_62 (by decide) ?_
        refine r_icmp_ge 142 dX11_ask_64 (by decide) (fun c64 => ?_) (fun c64 => ?_)
        · have h := Sat_pos c64 h
          have h := hX60 _ (Sat_some h)
          exact r_sub [0, 1, 2, 3, 4, 5, 6] rfl (J142 s60.1 s60.2.1 s46.2.2 h)
        · have h := Sat_neg c64 h
          refine r_aload_n dX11_ask_67 0 rfl ?_
          obtain ⟨x68, e68, h⟩ := Sat_bind h
          refine r_getP fk_X11_118 rfl e68 dX11_ask_68 ?_
          refine r_bipush (v := 12) dX11_ask_71 (by decide) ?_
          refine r_iload dX11_ask_73 5 rfl ?_
          refine r_imul dX11_ask_75 ?_
          refine r_iload dX11_ask_76 6 rfl ?_
          refine r_iadd dX11_ask_78 ?_
          refine r_bipush (v := 28) dX11_ask_79 (by decide) ?_
          refine r_imul dX11_ask_81 ?_
          refine r_iload dX11_ask_82 7 rfl ?_
          refine r_iadd dX11_ask_84 ?_
          obtain ⟨x85, e85, h⟩ := Sat_bind h
          refine r_iaload e85 dX11_ask_85 ?_
          refine r_istore (lv' := [(8, .int x85), (0, .ref a0), (1, .int l1), (2, .int x16.1), (3, .int s60.1), (4, .int s60.2.1), (5, .int s32.2.2), (6, .int s46.2.2), (7, .int s60.2.2)]) dX11_ask_86 (by decide) rfl ?_
          refine r_iload dX11_ask_88 0 rfl ?_
          refine r_iload_n dX11_ask_90 3 rfl ?_
          refine r_iload dX11_ask_91 0 rfl ?_
          refine r_isub dX11_ask_93 ?_
          refine r_icmp_le 102 dX11_ask_94 (by decide) (fun c94 => ?_) (fun c94 => ?_)
          · have h := Sat_pos c94 h
            refine r_iload_n dX11_ask_102 3 rfl ?_
            refine r_iload dX11_ask_103 0 rfl ?_
            refine r_isub dX11_ask_105 ?_
            exact r_sub [1, 2, 3, 4, 5, 6, 7, 8] rfl (J106 s60.1 s60.2.1 s60.2.2 (x16.1 - x85) h)
          · have h := Sat_neg c94 h
            refine r_iload dX11_ask_97 0 rfl ?_
            refine r_goto 106 dX11_ask_99 (by decide) ?_
            exact r_sub [1, 2, 3, 4, 5, 6, 7, 8] rfl (J106 s60.1 s60.2.1 s60.2.2 x85 h)
  · have h := Sat_pos c6 h
    refine r_bipush (v := -2) dX11_ask_9 (by decide) ?_
    exact r_ireturn rfl (by rw [← Sat_eq h]; exact ⟨rfl, rfl⟩) dX11_ask_11
theorem dX11_begin_0 : decode cX11_begin 0 = .ok (.iconst 0, 1) := by decide +kernel
theorem dX11_begin_1 : decode cX11_begin 1 = .ok (.istore_n 1, 1) := by decide +kernel
theorem dX11_begin_2 : decode cX11_begin 2 = .ok (.iload_n 1, 1) := by decide +kernel
theorem dX11_begin_3 : decode cX11_begin 3 = .ok (.bipush 11, 2) := by decide +kernel
theorem dX11_begin_5 : decode cX11_begin 5 = .ok (.if_icmp .ge 19, 3) := by decide +kernel
theorem dX11_begin_8 : decode cX11_begin 8 = .ok (.aload_n 0, 1) := by decide +kernel
theorem dX11_begin_9 : decode cX11_begin 9 = .ok (.getfield 17, 3) := by decide +kernel
theorem dX11_begin_12 : decode cX11_begin 12 = .ok (.bipush 11, 2) := by decide +kernel
theorem dX11_begin_14 : decode cX11_begin 14 = .ok (.iload_n 1, 1) := by decide +kernel
theorem dX11_begin_15 : decode cX11_begin 15 = .ok (.iadd, 1) := by decide +kernel
theorem dX11_begin_16 : decode cX11_begin 16 = .ok (.iconst 0, 1) := by decide +kernel
theorem dX11_begin_17 : decode cX11_begin 17 = .ok (.iastore, 1) := by decide +kernel
theorem dX11_begin_18 : decode cX11_begin 18 = .ok (.iinc 1 1, 3) := by decide +kernel
theorem dX11_begin_21 : decode cX11_begin 21 = .ok (.goto (-19), 3) := by decide +kernel
theorem dX11_begin_24 : decode cX11_begin 24 = .ok (.aload_n 0, 1) := by decide +kernel
theorem dX11_begin_25 : decode cX11_begin 25 = .ok (.getfield 17, 3) := by decide +kernel
theorem dX11_begin_28 : decode cX11_begin 28 = .ok (.bipush 16, 2) := by decide +kernel
theorem dX11_begin_30 : decode cX11_begin 30 = .ok (.bipush 28, 2) := by decide +kernel
theorem dX11_begin_32 : decode cX11_begin 32 = .ok (.iastore, 1) := by decide +kernel
theorem dX11_begin_33 : decode cX11_begin 33 = .ok (.iconst 0, 1) := by decide +kernel
theorem dX11_begin_34 : decode cX11_begin 34 = .ok (.istore_n 1, 1) := by decide +kernel
theorem dX11_begin_35 : decode cX11_begin 35 = .ok (.iload_n 1, 1) := by decide +kernel
theorem dX11_begin_36 : decode cX11_begin 36 = .ok (.bipush 8, 2) := by decide +kernel
theorem dX11_begin_38 : decode cX11_begin 38 = .ok (.if_icmp .ge 29, 3) := by decide +kernel
theorem dX11_begin_41 : decode cX11_begin 41 = .ok (.aload_n 0, 1) := by decide +kernel
theorem dX11_begin_42 : decode cX11_begin 42 = .ok (.getfield 25, 3) := by decide +kernel
theorem dX11_begin_45 : decode cX11_begin 45 = .ok (.bipush 8, 2) := by decide +kernel
theorem dX11_begin_47 : decode cX11_begin 47 = .ok (.iload_n 1, 1) := by decide +kernel
theorem dX11_begin_48 : decode cX11_begin 48 = .ok (.iadd, 1) := by decide +kernel
theorem dX11_begin_49 : decode cX11_begin 49 = .ok (.iconst 0, 1) := by decide +kernel
theorem dX11_begin_50 : decode cX11_begin 50 = .ok (.iastore, 1) := by decide +kernel
theorem dX11_begin_51 : decode cX11_begin 51 = .ok (.aload_n 0, 1) := by decide +kernel
theorem dX11_begin_52 : decode cX11_begin 52 = .ok (.getfield 70, 3) := by decide +kernel
theorem dX11_begin_55 : decode cX11_begin 55 = .ok (.bipush 8, 2) := by decide +kernel
theorem dX11_begin_57 : decode cX11_begin 57 = .ok (.iload_n 1, 1) := by decide +kernel
theorem dX11_begin_58 : decode cX11_begin 58 = .ok (.iadd, 1) := by decide +kernel
theorem dX11_begin_59 : decode cX11_begin 59 = .ok (.iconst 0, 1) := by decide +kernel
theorem dX11_begin_60 : decode cX11_begin 60 = .ok (.iastore, 1) := by decide +kernel
theorem dX11_begin_61 : decode cX11_begin 61 = .ok (.iinc 1 1, 3) := by decide +kernel
theorem dX11_begin_64 : decode cX11_begin 64 = .ok (.goto (-29), 3) := by decide +kernel
theorem dX11_begin_67 : decode cX11_begin 67 = .ok (.aload_n 0, 1) := by decide +kernel
theorem dX11_begin_68 : decode cX11_begin 68 = .ok (.iconst 0, 1) := by decide +kernel
theorem dX11_begin_69 : decode cX11_begin 69 = .ok (.putfield 227, 3) := by decide +kernel
theorem dX11_begin_72 : decode cX11_begin 72 = .ok (.return_, 1) := by decide +kernel
noncomputable def f_X11_begin_J67 (a0 : Nat) (μ : Mm) : Option Mm :=
  (pf_I 12 31 a0 (0 : Int32) μ).bind fun μ69 => some μ69
noncomputable def f_X11_begin_L35 (a0 : Nat) (s35 : Int32 × Mm) : Option ((Int32 × Mm) ⊕ (Mm)) :=
  if (8 : Int32) ≤ s35.1 then some (.inr s35.2) else (gf_P 12 14 a0 s35.2).bind fun x42 => (pa_I x42 ((8 : Int32) + s35.1) (0 : Int32) s35.2).bind fun μ50 => (gf_P 12 29 a0 μ50).bind fun x52 => (pa_I x52 ((8 : Int32) + s35.1) (0 : Int32) μ50).bind fun μ60 => (some (s35.1 + (1 : Int32))).bind fun v61 => some (.inl (v61, μ60))
noncomputable def f_X11_begin_J24 (a0 : Nat) (μ : Mm) : Option Mm :=
  (gf_P 12 12 a0 μ).bind fun x25 => (pa_I x25 (16 : Int32) (28 : Int32) μ).bind fun μ32 => (whl (f_X11_begin_L35 a0) ((0 : Int32), μ32)).bind (fun b35 => f_X11_begin_J67 a0 b35)
noncomputable def f_X11_begin_L2 (a0 : Nat) (s2 : Int32 × Mm) : Option ((Int32 × Mm) ⊕ (Mm)) :=
  if (11 : Int32) ≤ s2.1 then some (.inr s2.2) else (gf_P 12 12 a0 s2.2).bind fun x9 => (pa_I x9 ((11 : Int32) + s2.1) (0 : Int32) s2.2).bind fun μ17 => (some (s2.1 + (1 : Int32))).bind fun v18 => some (.inl (v18, μ17))
noncomputable def f_X11_begin (a0 : Nat) (μ : Mm) : Option Mm :=
  if (mm_K μ a0).1 = 12 then (whl (f_X11_begin_L2 a0) ((0 : Int32), μ)).bind (fun b2 => f_X11_begin_J24 a0 b2) else none
abbrev Rn_X11_begin (G : Gv) (Q : Option Value → Mm → Prop) (pc : Nat) (lv : List (Nat × Value)) (st : List Value) (μ : Mm) : Prop := Rn G RX11 cX11_begin 2 none "begin" (rmd 0 0 0) (Zm G 0 0 Q) 0 0 pc lv st μ
set_option maxRecDepth 100000 in
set_option maxHeartbeats 4000000 in
theorem m_X11_begin {G : Gv} (a0 : Nat) (μ : Mm) {r : Mm} (hx : f_X11_begin a0 μ = some r) : Mt G yX11_begin cX11_begin 2 none 0 0 0 [.ref a0] μ (fun v μ' => v = none ∧ μ' = r) := by
  refine Mt.of (by decide) (Nat.le_of_ble_eq_true rfl) ?_
  show Rn_X11_begin G (fun v μ' => v = none ∧ μ' = r) 0 [(0, .ref a0)] [] μ
  obtain ⟨_, h⟩ := Sat_ifp (show Sat (f_X11_begin a0 μ) (fun x => x = r) from ⟨_, hx, rfl⟩)
  have J67 : ∀ (a0_67 : Nat) (μ_67 : Mm), Sat (f_X11_begin_J67 a0_67 μ_67) (fun x => x = r) → Rn_X11_begin G (fun v μ' => v = none ∧ μ' = r) 67 [(0, .ref a0_67)] [] μ_67 := by
    intro a0_67 μ_67 h
    refine r_aload_n dX11_begin_67 0 rfl ?_
    refine r_iconst (v := 0) dX11_begin_68 (by decide) ?_
    obtain ⟨μ69, e69, h⟩ := Sat_bind h
    refine r_putI fk_X11_227 rfl rfl e69 dX11_begin_69 ?_
    exact r_vreturn rfl (by rw [← Sat_eq h]; exact ⟨rfl, rfl⟩) dX11_begin_72
  have J24 : ∀ (a0_24 : Nat) (μ_24 : Mm), Sat (f_X11_begin_J24 a0_24 μ_24) (fun x => x = r) → Rn_X11_begin G (fun v μ' => v = none ∧ μ' = r) 24 [(0, .ref a0_24)] [] μ_24 := by
    intro a0_24 μ_24 h
    refine r_aload_n dX11_begin_24 0 rfl ?_
    obtain ⟨x25, e25, h⟩ := Sat_bind h
    refine r_getP fk_X11_17 rfl e25 dX11_begin_25 ?_
    refine r_bipush (v := 16) dX11_begin_28 (by decide) ?_
    refine r_bipush (v := 28) dX11_begin_30 (by decide) ?_
    obtain ⟨μ32, e32, h⟩ := Sat_bind h
    refine r_iastore e32 dX11_begin_32 ?_
    refine r_iconst (v := 0) dX11_begin_33 (by decide) ?_
    refine r_istore_n (lv' := [(1, .int (0 : Int32)), (0, .ref a0_24)]) dX11_begin_34 rfl (by decide) rfl ?_
    refine r_sub (lv' := [(0, .ref a0_24), (1, .int (0 : Int32))]) [1, 0] rfl ?_
    refine whl_K (s0 := (((0 : Int32), μ32) : Int32 × Mm)) (RR := fun (s35 : Int32 × Mm) => Rn_X11_begin G (fun v μ' => v = none ∧ μ' = r) 35 [(0, .ref a0_24), (1, .int s35.1)] [] s35.2) ?_ (Sat_bindK h)
    intro s35 K35 hI35 hX35 h
    refine r_iload_n dX11_begin_35 1 rfl ?_
    refine r_bipush (v := 8) dX11_begin_36 (by decide) ?_
    refine r_icmp_ge 67 dX11_begin_38 (by decide) (fun c38 => ?_) (fun c38 => ?_)
    · have h := Sat_pos c38 h
      have h := hX35 _ (Sat_some h)
      exact r_sub [0] rfl (J67 a0_24 s35.2 h)
    · have h := Sat_neg c38 h
      refine r_aload_n dX11_begin_41 0 rfl ?_
      obtain ⟨x42, e42, h⟩ := Sat_bind h
      refine r_getP fk_X11_25 rfl e42 dX11_begin_42 ?_
      refine r_bipush (v := 8) dX11_begin_45 (by decide) ?_
      refine r_iload_n dX11_begin_47 1 rfl ?_
      refine r_iadd dX11_begin_48 ?_
      refine r_iconst (v := 0) dX11_begin_49 (by decide) ?_
      obtain ⟨μ50, e50, h⟩ := Sat_bind h
      refine r_iastore e50 dX11_begin_50 ?_
      refine r_aload_n dX11_begin_51 0 rfl ?_
      obtain ⟨x52, e52, h⟩ := Sat_bind h
      refine r_getP fk_X11_70 rfl e52 dX11_begin_52 ?_
      refine r_bipush (v := 8) dX11_begin_55 (by decide) ?_
      refine r_iload_n dX11_begin_57 1 rfl ?_
      refine r_iadd dX11_begin_58 ?_
      refine r_iconst (v := 0) dX11_begin_59 (by decide) ?_
      obtain ⟨μ60, e60, h⟩ := Sat_bind h
      refine r_iastore e60 dX11_begin_60 ?_
      obtain ⟨v61, e61, h⟩ := Sat_bind h
      refine r_iinc (j := 1) (v := v61) (lv' := [(1, .int v61), (0, .ref a0_24)]) dX11_begin_61 rfl (iinc_v e61 (by decide)) (by decide) rfl ?_
      refine r_goto 35 dX11_begin_64 (by decide) ?_
      exact r_sub [1, 0] rfl (hI35 _ (Sat_some h))
  refine r_iconst (v := 0) dX11_begin_0 (by decide) ?_
  refine r_istore_n (lv' := [(1, .int (0 : Int32)), (0, .ref a0)]) dX11_begin_1 rfl (by decide) rfl ?_
  refine r_sub (lv' := [(0, .ref a0), (1, .int (0 : Int32))]) [1, 0] rfl ?_
  refine whl_K (s0 := (((0 : Int32), μ) : Int32 × Mm)) (RR := fun (s2 : Int32 × Mm) => Rn_X11_begin G (fun v μ' => v = none ∧ μ' = r) 2 [(0, .ref a0), (1, .int s2.1)] [] s2.2) ?_ (Sat_bindK h)
  intro s2 K2 hI2 hX2 h
  refine r_iload_n dX11_begin_2 1 rfl ?_
  refine r_bipush (v := 11) dX11_begin_3 (by decide) ?_
  refine r_icmp_ge 24 dX11_begin_5 (by decide) (fun c5 => ?_) (fun c5 => ?_)
  · have h := Sat_pos c5 h
    have h := hX2 _ (Sat_some h)
    exact r_sub [0] rfl (J24 a0 s2.2 h)
  · have h := Sat_neg c5 h
    refine r_aload_n dX11_begin_8 0 rfl ?_
    obtain ⟨x9, e9, h⟩ := Sat_bind h
    refine r_getP fk_X11_17 rfl e9 dX11_begin_9 ?_
    refine r_bipush (v := 11) dX11_begin_12 (by decide) ?_
    refine r_iload_n dX11_begin_14 1 rfl ?_
    refine r_iadd dX11_begin_15 ?_
    refine r_iconst (v := 0) dX11_begin_16 (by decide) ?_
    obtain ⟨μ17, e17, h⟩ := Sat_bind h
    refine r_iastore e17 dX11_begin_17 ?_
    obtain ⟨v18, e18, h⟩ := Sat_bind h
    refine r_iinc (j := 1) (v := v18) (lv' := [(1, .int v18), (0, .ref a0)]) dX11_begin_18 rfl (iinc_v e18 (by decide)) (by decide) rfl ?_
    refine r_goto 2 dX11_begin_21 (by decide) ?_
    exact r_sub [1, 0] rfl (hI2 _ (Sat_some h))
theorem dX11_begin__0 : decode cX11_begin_ 0 = .ok (.iload_n 1, 1) := by decide +kernel
theorem dX11_begin__1 : decode cX11_begin_ 1 = .ok (.ifCond .ge 6, 3) := by decide +kernel
theorem dX11_begin__4 : decode cX11_begin_ 4 = .ok (.bipush (-2), 2) := by decide +kernel
theorem dX11_begin__6 : decode cX11_begin_ 6 = .ok (.ireturn, 1) := by decide +kernel
theorem dX11_begin__7 : decode cX11_begin_ 7 = .ok (.aload_n 0, 1) := by decide +kernel
theorem dX11_begin__8 : decode cX11_begin_ 8 = .ok (.iload_n 1, 1) := by decide +kernel
theorem dX11_begin__9 : decode cX11_begin_ 9 = .ok (.i2l, 1) := by decide +kernel
theorem dX11_begin__10 : decode cX11_begin_ 10 = .ok (.putfield 443, 3) := by decide +kernel
theorem dX11_begin__13 : decode cX11_begin_ 13 = .ok (.aload_n 0, 1) := by decide +kernel
theorem dX11_begin__14 : decode cX11_begin_ 14 = .ok (.iconst 1, 1) := by decide +kernel
theorem dX11_begin__15 : decode cX11_begin_ 15 = .ok (.putfield 253, 3) := by decide +kernel
theorem dX11_begin__18 : decode cX11_begin_ 18 = .ok (.aload_n 0, 1) := by decide +kernel
theorem dX11_begin__19 : decode cX11_begin_ 19 = .ok (.aload_n 0, 1) := by decide +kernel
theorem dX11_begin__20 : decode cX11_begin_ 20 = .ok (.getfield 241, 3) := by decide +kernel
theorem dX11_begin__23 : decode cX11_begin_ 23 = .ok (.putfield 446, 3) := by decide +kernel
theorem dX11_begin__26 : decode cX11_begin_ 26 = .ok (.aload_n 0, 1) := by decide +kernel
theorem dX11_begin__27 : decode cX11_begin_ 27 = .ok (.iconst 0, 1) := by decide +kernel
theorem dX11_begin__28 : decode cX11_begin_ 28 = .ok (.putfield 449, 3) := by decide +kernel
theorem dX11_begin__31 : decode cX11_begin_ 31 = .ok (.iconst 0, 1) := by decide +kernel
theorem dX11_begin__32 : decode cX11_begin_ 32 = .ok (.istore_n 2, 1) := by decide +kernel
theorem dX11_begin__33 : decode cX11_begin_ 33 = .ok (.iload_n 2, 1) := by decide +kernel
theorem dX11_begin__34 : decode cX11_begin_ 34 = .ok (.bipush 8, 2) := by decide +kernel
theorem dX11_begin__36 : decode cX11_begin_ 36 = .ok (.if_icmp .ge 16, 3) := by decide +kernel
theorem dX11_begin__39 : decode cX11_begin_ 39 = .ok (.aload_n 0, 1) := by decide +kernel
theorem dX11_begin__40 : decode cX11_begin_ 40 = .ok (.getfield 133, 3) := by decide +kernel
theorem dX11_begin__43 : decode cX11_begin_ 43 = .ok (.iload_n 2, 1) := by decide +kernel
theorem dX11_begin__44 : decode cX11_begin_ 44 = .ok (.iconst 0, 1) := by decide +kernel
theorem dX11_begin__45 : decode cX11_begin_ 45 = .ok (.iastore, 1) := by decide +kernel
theorem dX11_begin__46 : decode cX11_begin_ 46 = .ok (.iinc 2 1, 3) := by decide +kernel
theorem dX11_begin__49 : decode cX11_begin_ 49 = .ok (.goto (-16), 3) := by decide +kernel
theorem dX11_begin__52 : decode cX11_begin_ 52 = .ok (.iconst 1, 1) := by decide +kernel
theorem dX11_begin__53 : decode cX11_begin_ 53 = .ok (.ireturn, 1) := by decide +kernel
noncomputable def f_X11_begin__L33 (a0 : Nat) (s33 : Int32 × Mm) : Option ((Int32 × Mm) ⊕ (Mm)) :=
  if (8 : Int32) ≤ s33.1 then some (.inr s33.2) else (gf_P 12 68 a0 s33.2).bind fun x40 => (pa_I x40 s33.1 (0 : Int32) s33.2).bind fun μ45 => (some (s33.1 + (1 : Int32))).bind fun v46 => some (.inl (v46, μ45))
noncomputable def f_X11_begin_ (a0 : Nat) (l1 : Int32) (μ : Mm) : Option (Int32 × Mm) :=
  if (mm_K μ a0).1 = 12 then if 0 ≤ l1 then (pf_L 12 67 a0 l1.toInt64 μ).bind fun μ10 => (pf_Z 12 64 a0 (1 : Int32) μ10).bind fun μ15 => (gf_I 12 33 a0 μ15).bind fun x20 => (pf_I 12 65 a0 x20 μ15).bind fun μ23 => (pf_I 12 66 a0 (0 : Int32) μ23).bind fun μ28 => (whl (f_X11_begin__L33 a0) ((0 : Int32), μ28)).bind (fun b33 => some ((1 : Int32), b33)) else some ((-2 : Int32), μ) else none
abbrev Rn_X11_begin_ (G : Gv) (Q : Option Value → Mm → Prop) (pc : Nat) (lv : List (Nat × Value)) (st : List Value) (μ : Mm) : Prop := Rn G RX11 cX11_begin_ 3 (some .int) "begin" (rmd 0 0 0) (Zm G 0 0 Q) 0 0 pc lv st μ
set_option maxRecDepth 100000 in
set_option maxHeartbeats 4000000 in
theorem m_X11_begin_ {G : Gv} (a0 : Nat) (l1 : Int32) (μ : Mm) {r : (Int32 × Mm)} (hx : f_X11_begin_ a0 l1 μ = some r) : Mt G yX11_begin_ cX11_begin_ 3 (some .int) 0 0 0 [.ref a0, .int l1] μ (fun v μ' => v = some (.int r.1) ∧ μ' = r.2) := by
  refine Mt.of (by decide) (Nat.le_of_ble_eq_true rfl) ?_
  show Rn_X11_begin_ G (fun v μ' => v = some (.int r.1) ∧ μ' = r.2) 0 [(0, .ref a0), (1, .int l1)] [] μ
  obtain ⟨_, h⟩ := Sat_ifp (show Sat (f_X11_begin_ a0 l1 μ) (fun x => x = r) from ⟨_, hx, rfl⟩)
  refine r_iload_n dX11_begin__0 1 rfl ?_
  refine r_if_ge 7 dX11_begin__1 (by decide) (fun c1 => ?_) (fun c1 => ?_)
  · have h := Sat_pos c1 h
    refine r_aload_n dX11_begin__7 0 rfl ?_
    refine r_iload_n dX11_begin__8 1 rfl ?_
    refine r_i2l dX11_begin__9 ?_
    obtain ⟨μ10, e10, h⟩ := Sat_bind h
    refine r_putL fk_X11_443 rfl rfl e10 dX11_begin__10 ?_
    refine r_aload_n dX11_begin__13 0 rfl ?_
    refine r_iconst (v := 1) dX11_begin__14 (by decide) ?_
    obtain ⟨μ15, e15, h⟩ := Sat_bind h
    refine r_putZ fk_X11_253 rfl rfl e15 dX11_begin__15 ?_
    refine r_aload_n dX11_begin__18 0 rfl ?_
    refine r_aload_n dX11_begin__19 0 rfl ?_
    obtain ⟨x20, e20, h⟩ := Sat_bind h
    refine r_getI fk_X11_241 rfl e20 dX11_begin__20 ?_
    obtain ⟨μ23, e23, h⟩ := Sat_bind h
    refine r_putI fk_X11_446 rfl rfl e23 dX11_begin__23 ?_
    refine r_aload_n dX11_begin__26 0 rfl ?_
    refine r_iconst (v := 0) dX11_begin__27 (by decide) ?_
    obtain ⟨μ28, e28, h⟩ := Sat_bind h
    refine r_putI fk_X11_449 rfl rfl e28 dX11_begin__28 ?_
    refine r_iconst (v := 0) dX11_begin__31 (by decide) ?_
    refine r_istore_n (lv' := [(2, .int (0 : Int32)), (0, .ref a0), (1, .int l1)]) dX11_begin__32 rfl (by decide) rfl ?_
    refine r_sub (lv' := [(0, .ref a0), (2, .int (0 : Int32))]) [1, 0] rfl ?_
    refine whl_K (s0 := (((0 : Int32), μ28) : Int32 × Mm)) (RR := fun (s33 : Int32 × Mm) => Rn_X11_begin_ G (fun v μ' => v = some (.int r.1) ∧ μ' = r.2) 33 [(0, .ref a0), (2, .int s33.1)] [] s33.2) ?_ (Sat_bindK h)
    intro s33 K33 hI33 hX33 h
    refine r_iload_n dX11_begin__33 1 rfl ?_
    refine r_bipush (v := 8) dX11_begin__34 (by decide) ?_
    refine r_icmp_ge 52 dX11_begin__36 (by decide) (fun c36 => ?_) (fun c36 => ?_)
    · have h := Sat_pos c36 h
      have h := hX33 _ (Sat_some h)
      refine r_iconst (v := 1) dX11_begin__52 (by decide) ?_
      exact r_ireturn rfl (by rw [← Sat_eq h]; exact ⟨rfl, rfl⟩) dX11_begin__53
    · have h := Sat_neg c36 h
      refine r_aload_n dX11_begin__39 0 rfl ?_
      obtain ⟨x40, e40, h⟩ := Sat_bind h
      refine r_getP fk_X11_133 rfl e40 dX11_begin__40 ?_
      refine r_iload_n dX11_begin__43 1 rfl ?_
      refine r_iconst (v := 0) dX11_begin__44 (by decide) ?_
      obtain ⟨μ45, e45, h⟩ := Sat_bind h
      refine r_iastore e45 dX11_begin__45 ?_
      obtain ⟨v46, e46, h⟩ := Sat_bind h
      refine r_iinc (j := 1) (v := v46) (lv' := [(2, .int v46), (0, .ref a0)]) dX11_begin__46 rfl (iinc_v e46 (by decide)) (by decide) rfl ?_
      refine r_goto 33 dX11_begin__49 (by decide) ?_
      exact r_sub [1, 0] rfl (hI33 _ (Sat_some h))
  · have h := Sat_neg c1 h
    refine r_bipush (v := -2) dX11_begin__4 (by decide) ?_
    exact r_ireturn rfl (by rw [← Sat_eq h]; exact ⟨rfl, rfl⟩) dX11_begin__6
theorem dX11_bits_0 : decode cX11_bits 0 = .ok (.iconst 0, 1) := by decide +kernel
theorem dX11_bits_1 : decode cX11_bits 1 = .ok (.istore_n 1, 1) := by decide +kernel
theorem dX11_bits_2 : decode cX11_bits 2 = .ok (.iload_n 0, 1) := by decide +kernel
theorem dX11_bits_3 : decode cX11_bits 3 = .ok (.istore_n 2, 1) := by decide +kernel
theorem dX11_bits_4 : decode cX11_bits 4 = .ok (.iload_n 2, 1) := by decide +kernel
theorem dX11_bits_5 : decode cX11_bits 5 = .ok (.ifCond .eq 15, 3) := by decide +kernel
theorem dX11_bits_8 : decode cX11_bits 8 = .ok (.iinc 1 1, 3) := by decide +kernel
theorem dX11_bits_11 : decode cX11_bits 11 = .ok (.iload_n 2, 1) := by decide +kernel
theorem dX11_bits_12 : decode cX11_bits 12 = .ok (.iload_n 2, 1) := by decide +kernel
theorem dX11_bits_13 : decode cX11_bits 13 = .ok (.iconst 1, 1) := by decide +kernel
theorem dX11_bits_14 : decode cX11_bits 14 = .ok (.isub, 1) := by decide +kernel
theorem dX11_bits_15 : decode cX11_bits 15 = .ok (.iand, 1) := by decide +kernel
theorem dX11_bits_16 : decode cX11_bits 16 = .ok (.istore_n 2, 1) := by decide +kernel
theorem dX11_bits_17 : decode cX11_bits 17 = .ok (.goto (-13), 3) := by decide +kernel
theorem dX11_bits_20 : decode cX11_bits 20 = .ok (.iload_n 1, 1) := by decide +kernel
theorem dX11_bits_21 : decode cX11_bits 21 = .ok (.ireturn, 1) := by decide +kernel
noncomputable def f_X11_bits_L4  (μ : Mm) (s4 : Int32 × Int32) : Option ((Int32 × Int32) ⊕ (Int32)) :=
  if s4.2 = 0 then some (.inr s4.1) else (some (s4.1 + (1 : Int32))).bind fun v8 => (some (s4.2 &&& (s4.2 - (1 : Int32)))).bind fun v16 => some (.inl (v8, v16))
noncomputable def f_X11_bits (l0 : Int32) (μ : Mm) : Option Int32 :=
  (whl (f_X11_bits_L4 μ) ((0 : Int32), l0)).bind (fun b4 => some b4)
abbrev Rn_X11_bits (G : Gv) (Q : Option Value → Mm → Prop) (pc : Nat) (lv : List (Nat × Value)) (st : List Value) (μ : Mm) : Prop := Rn G RX11 cX11_bits 3 (some .int) "bits" (rmd 0 0 0) (Zm G 0 0 Q) 0 0 pc lv st μ
set_option maxRecDepth 100000 in
set_option maxHeartbeats 4000000 in
theorem m_X11_bits {G : Gv} (l0 : Int32) (μ : Mm) {r : Int32} (hx : f_X11_bits l0 μ = some r) : Mt G yX11_bits cX11_bits 3 (some .int) 0 0 0 [.int l0] μ (fun v μ' => v = some (.int r) ∧ μ' = μ) := by
  refine Mt.of (by decide) (Nat.le_of_ble_eq_true rfl) ?_
  show Rn_X11_bits G (fun v μ' => v = some (.int r) ∧ μ' = μ) 0 [(0, .int l0)] [] μ
  have h : Sat (f_X11_bits l0 μ) (fun x => x = r) := ⟨_, hx, rfl⟩
  refine r_iconst (v := 0) dX11_bits_0 (by decide) ?_
  refine r_istore_n (lv' := [(1, .int (0 : Int32)), (0, .int l0)]) dX11_bits_1 rfl (by decide) rfl ?_
  refine r_iload_n dX11_bits_2 1 rfl ?_
  refine r_istore_n (lv' := [(2, .int l0), (1, .int (0 : Int32)), (0, .int l0)]) dX11_bits_3 rfl (by decide) rfl ?_
  refine r_sub (lv' := [(1, .int (0 : Int32)), (2, .int l0)]) [1, 0] rfl ?_
  refine whl_K (s0 := (((0 : Int32), l0) : Int32 × Int32)) (RR := fun (s4 : Int32 × Int32) => Rn_X11_bits G (fun v μ' => v = some (.int r) ∧ μ' = μ) 4 [(1, .int s4.1), (2, .int s4.2)] [] μ) ?_ (Sat_bindK h)
  intro s4 K4 hI4 hX4 h
  refine r_iload_n dX11_bits_4 1 rfl ?_
  refine r_if_eq 20 dX11_bits_5 (by decide) (fun c5 => ?_) (fun c5 => ?_)
  · have h := Sat_pos c5 h
    have h := hX4 _ (Sat_some h)
    refine r_iload_n dX11_bits_20 0 rfl ?_
    exact r_ireturn rfl (by rw [← Sat_eq h]; exact ⟨rfl, rfl⟩) dX11_bits_21
  · have h := Sat_neg c5 h
    obtain ⟨v8, e8, h⟩ := Sat_bind h
    refine r_iinc (j := 0) (v := v8) (lv' := [(1, .int v8), (2, .int s4.2)]) dX11_bits_8 rfl (iinc_v e8 (by decide)) (by decide) rfl ?_
    refine r_iload_n dX11_bits_11 1 rfl ?_
    refine r_iload_n dX11_bits_12 1 rfl ?_
    refine r_iconst (v := 1) dX11_bits_13 (by decide) ?_
    refine r_isub dX11_bits_14 ?_
    refine r_iand dX11_bits_15 ?_
    obtain ⟨v16, e16, h⟩ := Sat_bind h
    refine r_topi (Option.some.inj e16) ?_
    refine r_istore_n (lv' := [(2, .int v16), (1, .int v8)]) dX11_bits_16 rfl (by decide) rfl ?_
    refine r_goto 4 dX11_bits_17 (by decide) ?_
    exact r_sub [1, 0] rfl (hI4 _ (Sat_some h))
theorem dX11_byteAt_0 : decode cX11_byteAt 0 = .ok (.iload_n 1, 1) := by decide +kernel
theorem dX11_byteAt_1 : decode cX11_byteAt 1 = .ok (.aload_n 0, 1) := by decide +kernel
theorem dX11_byteAt_2 : decode cX11_byteAt 2 = .ok (.getfield 158, 3) := by decide +kernel
theorem dX11_byteAt_5 : decode cX11_byteAt 5 = .ok (.if_icmp .ge 16, 3) := by decide +kernel
theorem dX11_byteAt_8 : decode cX11_byteAt 8 = .ok (.aload_n 0, 1) := by decide +kernel
theorem dX11_byteAt_9 : decode cX11_byteAt 9 = .ok (.getfield 7, 3) := by decide +kernel
theorem dX11_byteAt_12 : decode cX11_byteAt 12 = .ok (.iload_n 1, 1) := by decide +kernel
theorem dX11_byteAt_13 : decode cX11_byteAt 13 = .ok (.baload, 1) := by decide +kernel
theorem dX11_byteAt_14 : decode cX11_byteAt 14 = .ok (.sipush 255, 3) := by decide +kernel
theorem dX11_byteAt_17 : decode cX11_byteAt 17 = .ok (.iand, 1) := by decide +kernel
theorem dX11_byteAt_18 : decode cX11_byteAt 18 = .ok (.goto 4, 3) := by decide +kernel
theorem dX11_byteAt_21 : decode cX11_byteAt 21 = .ok (.iconst (-1), 1) := by decide +kernel
theorem dX11_byteAt_22 : decode cX11_byteAt 22 = .ok (.ireturn, 1) := by decide +kernel
noncomputable def f_X11_byteAt (a0 : Nat) (l1 : Int32) (μ : Mm) : Option Int32 :=
  if (mm_K μ a0).1 = 12 then (gf_I 12 2 a0 μ).bind fun x2 => if x2 ≤ l1 then some (-1 : Int32) else (gf_P 12 0 a0 μ).bind fun x9 => (ga_B x9 l1 μ).bind fun x13 => some (x13 &&& (255 : Int32)) else none
abbrev Rn_X11_byteAt (G : Gv) (Q : Option Value → Mm → Prop) (pc : Nat) (lv : List (Nat × Value)) (st : List Value) (μ : Mm) : Prop := Rn G RX11 cX11_byteAt 2 (some .int) "byteAt" (rmd 0 0 0) (Zm G 0 0 Q) 0 0 pc lv st μ
set_option maxRecDepth 100000 in
set_option maxHeartbeats 4000000 in
theorem m_X11_byteAt {G : Gv} (a0 : Nat) (l1 : Int32) (μ : Mm) {r : Int32} (hx : f_X11_byteAt a0 l1 μ = some r) : Mt G yX11_byteAt cX11_byteAt 2 (some .int) 0 0 0 [.ref a0, .int l1] μ (fun v μ' => v = some (.int r) ∧ μ' = μ) := by
  refine Mt.of (by decide) (Nat.le_of_ble_eq_true rfl) ?_
  show Rn_X11_byteAt G (fun v μ' => v = some (.int r) ∧ μ' = μ) 0 [(0, .ref a0), (1, .int l1)] [] μ
  obtain ⟨_, h⟩ := Sat_ifp (show Sat (f_X11_byteAt a0 l1 μ) (fun x => x = r) from ⟨_, hx, rfl⟩)
  refine r_iload_n dX11_byteAt_0 1 rfl ?_
  refine r_aload_n dX11_byteAt_1 0 rfl ?_
  obtain ⟨x2, e2, h⟩ := Sat_bind h
  refine r_getI fk_X11_158 rfl e2 dX11_byteAt_2 ?_
  refine r_icmp_ge 21 dX11_byteAt_5 (by decide) (fun c5 => ?_) (fun c5 => ?_)
  · have h := Sat_pos c5 h
    refine r_iconst (v := -1) dX11_byteAt_21 (by decide) ?_
    exact r_ireturn rfl (by rw [← Sat_eq h]; exact ⟨rfl, rfl⟩) dX11_byteAt_22
  · have h := Sat_neg c5 h
    refine r_aload_n dX11_byteAt_8 0 rfl ?_
    obtain ⟨x9, e9, h⟩ := Sat_bind h
    refine r_getP fk_X11_7 rfl e9 dX11_byteAt_9 ?_
    refine r_iload_n dX11_byteAt_12 1 rfl ?_
    obtain ⟨x13, e13, h⟩ := Sat_bind h
    refine r_baload e13 dX11_byteAt_13 ?_
    refine r_sipush (v := 255) dX11_byteAt_14 (by decide) ?_
    refine r_iand dX11_byteAt_17 ?_
    refine r_goto 22 dX11_byteAt_18 (by decide) ?_
    exact r_ireturn rfl (by rw [← Sat_eq h]; exact ⟨rfl, rfl⟩) dX11_byteAt_22
theorem dX11_isAloneInDraft_0 : decode cX11_isAloneInDraft 0 = .ok (.aload_n 0, 1) := by decide +kernel
theorem dX11_isAloneInDraft_1 : decode cX11_isAloneInDraft 1 = .ok (.getfield 17, 3) := by decide +kernel
theorem dX11_isAloneInDraft_4 : decode cX11_isAloneInDraft 4 = .ok (.bipush 18, 2) := by decide +kernel
theorem dX11_isAloneInDraft_6 : decode cX11_isAloneInDraft 6 = .ok (.iaload, 1) := by decide +kernel
theorem dX11_isAloneInDraft_7 : decode cX11_isAloneInDraft 7 = .ok (.iload_n 1, 1) := by decide +kernel
theorem dX11_isAloneInDraft_8 : decode cX11_isAloneInDraft 8 = .ok (.ishr, 1) := by decide +kernel
theorem dX11_isAloneInDraft_9 : decode cX11_isAloneInDraft 9 = .ok (.iconst 1, 1) := by decide +kernel
theorem dX11_isAloneInDraft_10 : decode cX11_isAloneInDraft 10 = .ok (.iand, 1) := by decide +kernel
theorem dX11_isAloneInDraft_11 : decode cX11_isAloneInDraft 11 = .ok (.iconst 1, 1) := by decide +kernel
theorem dX11_isAloneInDraft_12 : decode cX11_isAloneInDraft 12 = .ok (.if_icmp .ne 7, 3) := by decide +kernel
theorem dX11_isAloneInDraft_15 : decode cX11_isAloneInDraft 15 = .ok (.iconst 1, 1) := by decide +kernel
theorem dX11_isAloneInDraft_16 : decode cX11_isAloneInDraft 16 = .ok (.goto 4, 3) := by decide +kernel
theorem dX11_isAloneInDraft_19 : decode cX11_isAloneInDraft 19 = .ok (.iconst 0, 1) := by decide +kernel
theorem dX11_isAloneInDraft_20 : decode cX11_isAloneInDraft 20 = .ok (.ireturn, 1) := by decide +kernel
noncomputable def f_X11_isAloneInDraft (a0 : Nat) (l1 : Int32) (μ : Mm) : Option Int32 :=
  if (mm_K μ a0).1 = 12 then (gf_P 12 12 a0 μ).bind fun x1 => (ga_I x1 (18 : Int32) μ).bind fun x6 => if ((x6 >>> (l1 &&& 31)) &&& (1 : Int32)) = (1 : Int32) then some (1 : Int32) else some (0 : Int32) else none
abbrev Rn_X11_isAloneInDraft (G : Gv) (Q : Option Value → Mm → Prop) (pc : Nat) (lv : List (Nat × Value)) (st : List Value) (μ : Mm) : Prop := Rn G RX11 cX11_isAloneInDraft 2 (some .boolean) "isAloneInDraft" (rmd 0 0 0) (Zm G 0 0 Q) 0 0 pc lv st μ
set_option maxRecDepth 100000 in
set_option maxHeartbeats 4000000 in
theorem m_X11_isAloneInDraft {G : Gv} (a0 : Nat) (l1 : Int32) (μ : Mm) {r : Int32} (hx : f_X11_isAloneInDraft a0 l1 μ = some r) : Mt G yX11_isAloneInDraft cX11_isAloneInDraft 2 (some .boolean) 0 0 0 [.ref a0, .int l1] μ (fun v μ' => v = some (.int r) ∧ μ' = μ) := by
  refine Mt.of (by decide) (Nat.le_of_ble_eq_true rfl) ?_
  show Rn_X11_isAloneInDraft G (fun v μ' => v = some (.int r) ∧ μ' = μ) 0 [(0, .ref a0), (1, .int l1)] [] μ
  obtain ⟨_, h⟩ := Sat_ifp (show Sat (f_X11_isAloneInDraft a0 l1 μ) (fun x => x = r) from ⟨_, hx, rfl⟩)
  refine r_aload_n dX11_isAloneInDraft_0 0 rfl ?_
  obtain ⟨x1, e1, h⟩ := Sat_bind h
  refine r_getP fk_X11_17 rfl e1 dX11_isAloneInDraft_1 ?_
  refine r_bipush (v := 18) dX11_isAloneInDraft_4 (by decide) ?_
  obtain ⟨x6, e6, h⟩ := Sat_bind h
  refine r_iaload e6 dX11_isAloneInDraft_6 ?_
  refine r_iload_n dX11_isAloneInDraft_7 1 rfl ?_
  refine r_ishr dX11_isAloneInDraft_8 ?_
  refine r_iconst (v := 1) dX11_isAloneInDraft_9 (by decide) ?_
  refine r_iand dX11_isAloneInDraft_10 ?_
  refine r_iconst (v := 1) dX11_isAloneInDraft_11 (by decide) ?_
  refine r_icmp_ne 19 dX11_isAloneInDraft_12 (by decide) (fun c12 => ?_) (fun c12 => ?_)
  · have h := Sat_neg c12 h
    refine r_iconst (v := 0) dX11_isAloneInDraft_19 (by decide) ?_
    exact r_zreturn rfl (by decide) (by rw [← Sat_eq h]; exact ⟨rfl, rfl⟩) dX11_isAloneInDraft_20
  · have h := Sat_pos c12 h
    refine r_iconst (v := 1) dX11_isAloneInDraft_15 (by decide) ?_
    refine r_goto 20 dX11_isAloneInDraft_16 (by decide) ?_
    exact r_zreturn rfl (by decide) (by rw [← Sat_eq h]; exact ⟨rfl, rfl⟩) dX11_isAloneInDraft_20
theorem dX11_canAll_0 : decode cX11_canAll 0 = .ok (.iload_n 1, 1) := by decide +kernel
theorem dX11_canAll_1 : decode cX11_canAll 1 = .ok (.aload_n 0, 1) := by decide +kernel
theorem dX11_canAll_2 : decode cX11_canAll 2 = .ok (.getfield 17, 3) := by decide +kernel
theorem dX11_canAll_5 : decode cX11_canAll 5 = .ok (.bipush 11, 2) := by decide +kernel
theorem dX11_canAll_7 : decode cX11_canAll 7 = .ok (.iaload, 1) := by decide +kernel
theorem dX11_canAll_8 : decode cX11_canAll 8 = .ok (.if_icmp .ne 5, 3) := by decide +kernel
theorem dX11_canAll_11 : decode cX11_canAll 11 = .ok (.iconst 1, 1) := by decide +kernel
theorem dX11_canAll_12 : decode cX11_canAll 12 = .ok (.ireturn, 1) := by decide +kernel
theorem dX11_canAll_13 : decode cX11_canAll 13 = .ok (.aload_n 0, 1) := by decide +kernel
theorem dX11_canAll_14 : decode cX11_canAll 14 = .ok (.iload_n 1, 1) := by decide +kernel
theorem dX11_canAll_15 : decode cX11_canAll 15 = .ok (.invokevirtual 260, 3) := by decide +kernel
theorem dX11_canAll_18 : decode cX11_canAll 18 = .ok (.ifCond .eq 12, 3) := by decide +kernel
theorem dX11_canAll_21 : decode cX11_canAll 21 = .ok (.aload_n 0, 1) := by decide +kernel
theorem dX11_canAll_22 : decode cX11_canAll 22 = .ok (.iload_n 1, 1) := by decide +kernel
theorem dX11_canAll_23 : decode cX11_canAll 23 = .ok (.iconst 1, 1) := by decide +kernel
theorem dX11_canAll_24 : decode cX11_canAll 24 = .ok (.iadd, 1) := by decide +kernel
theorem dX11_canAll_25 : decode cX11_canAll 25 = .ok (.iload_n 2, 1) := by decide +kernel
theorem dX11_canAll_26 : decode cX11_canAll 26 = .ok (.invokevirtual 297, 3) := by decide +kernel
theorem dX11_canAll_29 : decode cX11_canAll 29 = .ok (.ireturn, 1) := by decide +kernel
theorem dX11_canAll_30 : decode cX11_canAll 30 = .ok (.iconst 0, 1) := by decide +kernel
theorem dX11_canAll_31 : decode cX11_canAll 31 = .ok (.istore_n 3, 1) := by decide +kernel
theorem dX11_canAll_32 : decode cX11_canAll 32 = .ok (.iload_n 3, 1) := by decide +kernel
theorem dX11_canAll_33 : decode cX11_canAll 33 = .ok (.aload_n 0, 1) := by decide +kernel
theorem dX11_canAll_34 : decode cX11_canAll 34 = .ok (.getfield 17, 3) := by decide +kernel
theorem dX11_canAll_37 : decode cX11_canAll 37 = .ok (.bipush 11, 2) := by decide +kernel
theorem dX11_canAll_39 : decode cX11_canAll 39 = .ok (.iaload, 1) := by decide +kernel
theorem dX11_canAll_40 : decode cX11_canAll 40 = .ok (.if_icmp .ge 86, 3) := by decide +kernel
theorem dX11_canAll_43 : decode cX11_canAll 43 = .ok (.iload_n 3, 1) := by decide +kernel
theorem dX11_canAll_44 : decode cX11_canAll 44 = .ok (.iload_n 1, 1) := by decide +kernel
theorem dX11_canAll_45 : decode cX11_canAll 45 = .ok (.if_icmp .eq 50, 3) := by decide +kernel
theorem dX11_canAll_48 : decode cX11_canAll 48 = .ok (.aload_n 0, 1) := by decide +kernel
theorem dX11_canAll_49 : decode cX11_canAll 49 = .ok (.iload_n 3, 1) := by decide +kernel
theorem dX11_canAll_50 : decode cX11_canAll 50 = .ok (.invokevirtual 260, 3) := by decide +kernel
theorem dX11_canAll_53 : decode cX11_canAll 53 = .ok (.ifCond .ne 42, 3) := by decide +kernel
theorem dX11_canAll_56 : decode cX11_canAll 56 = .ok (.iload_n 2, 1) := by decide +kernel
theorem dX11_canAll_57 : decode cX11_canAll 57 = .ok (.iload_n 3, 1) := by decide +kernel
theorem dX11_canAll_58 : decode cX11_canAll 58 = .ok (.ishr, 1) := by decide +kernel
theorem dX11_canAll_59 : decode cX11_canAll 59 = .ok (.iconst 1, 1) := by decide +kernel
theorem dX11_canAll_60 : decode cX11_canAll 60 = .ok (.iand, 1) := by decide +kernel
theorem dX11_canAll_61 : decode cX11_canAll 61 = .ok (.ifCond .ne 34, 3) := by decide +kernel
theorem dX11_canAll_64 : decode cX11_canAll 64 = .ok (.aload_n 0, 1) := by decide +kernel
theorem dX11_canAll_65 : decode cX11_canAll 65 = .ok (.getfield 25, 3) := by decide +kernel
theorem dX11_canAll_68 : decode cX11_canAll 68 = .ok (.bipush 8, 2) := by decide +kernel
theorem dX11_canAll_70 : decode cX11_canAll 70 = .ok (.iload_n 1, 1) := by decide +kernel
theorem dX11_canAll_71 : decode cX11_canAll 71 = .ok (.iadd, 1) := by decide +kernel
theorem dX11_canAll_72 : decode cX11_canAll 72 = .ok (.iaload, 1) := by decide +kernel
theorem dX11_canAll_73 : decode cX11_canAll 73 = .ok (.ifCond .eq 18, 3) := by decide +kernel
theorem dX11_canAll_76 : decode cX11_canAll 76 = .ok (.aload_n 0, 1) := by decide +kernel
theorem dX11_canAll_77 : decode cX11_canAll 77 = .ok (.getfield 25, 3) := by decide +kernel
theorem dX11_canAll_80 : decode cX11_canAll 80 = .ok (.bipush 8, 2) := by decide +kernel
theorem dX11_canAll_82 : decode cX11_canAll 82 = .ok (.iload_n 1, 1) := by decide +kernel
theorem dX11_canAll_83 : decode cX11_canAll 83 = .ok (.iadd, 1) := by decide +kernel
theorem dX11_canAll_84 : decode cX11_canAll 84 = .ok (.iaload, 1) := by decide +kernel
theorem dX11_canAll_85 : decode cX11_canAll 85 = .ok (.iload_n 3, 1) := by decide +kernel
theorem dX11_canAll_86 : decode cX11_canAll 86 = .ok (.iconst 1, 1) := by decide +kernel
theorem dX11_canAll_87 : decode cX11_canAll 87 = .ok (.iadd, 1) := by decide +kernel
theorem dX11_canAll_88 : decode cX11_canAll 88 = .ok (.if_icmp .ne 7, 3) := by decide +kernel
theorem dX11_canAll_91 : decode cX11_canAll 91 = .ok (.iconst 1, 1) := by decide +kernel
theorem dX11_canAll_92 : decode cX11_canAll 92 = .ok (.goto 4, 3) := by decide +kernel
theorem dX11_canAll_95 : decode cX11_canAll 95 = .ok (.iconst 0, 1) := by decide +kernel
theorem dX11_canAll_96 : decode cX11_canAll 96 = .ok (.istore 4, 2) := by decide +kernel
theorem dX11_canAll_98 : decode cX11_canAll 98 = .ok (.iload 4, 2) := by decide +kernel
theorem dX11_canAll_100 : decode cX11_canAll 100 = .ok (.ifCond .eq 20, 3) := by decide +kernel
theorem dX11_canAll_103 : decode cX11_canAll 103 = .ok (.aload_n 0, 1) := by decide +kernel
theorem dX11_canAll_104 : decode cX11_canAll 104 = .ok (.iload_n 1, 1) := by decide +kernel
theorem dX11_canAll_105 : decode cX11_canAll 105 = .ok (.iconst 1, 1) := by decide +kernel
theorem dX11_canAll_106 : decode cX11_canAll 106 = .ok (.iadd, 1) := by decide +kernel
theorem dX11_canAll_107 : decode cX11_canAll 107 = .ok (.iload_n 2, 1) := by decide +kernel
theorem dX11_canAll_108 : decode cX11_canAll 108 = .ok (.iconst 1, 1) := by decide +kernel
theorem dX11_canAll_109 : decode cX11_canAll 109 = .ok (.iload_n 3, 1) := by decide +kernel
theorem dX11_canAll_110 : decode cX11_canAll 110 = .ok (.ishl, 1) := by decide +kernel
theorem dX11_canAll_111 : decode cX11_canAll 111 = .ok (.ior, 1) := by decide +kernel
theorem dX11_canAll_112 : decode cX11_canAll 112 = .ok (.invokevirtual 297, 3) := by decide +kernel
theorem dX11_canAll_115 : decode cX11_canAll 115 = .ok (.ifCond .eq 5, 3) := by decide +kernel
theorem dX11_canAll_118 : decode cX11_canAll 118 = .ok (.iconst 1, 1) := by decide +kernel
theorem dX11_canAll_119 : decode cX11_canAll 119 = .ok (.ireturn, 1) := by decide +kernel
theorem dX11_canAll_120 : decode cX11_canAll 120 = .ok (.iinc 3 1, 3) := by decide +kernel
theorem dX11_canAll_123 : decode cX11_canAll 123 = .ok (.goto (-91), 3) := by decide +kernel
theorem dX11_canAll_126 : decode cX11_canAll 126 = .ok (.iconst 0, 1) := by decide +kernel
theorem dX11_canAll_127 : decode cX11_canAll 127 = .ok (.ireturn, 1) := by decide +kernel
noncomputable def f_X11_canAll_J120 (self : Nat → Int32 → Int32 → Mm → Option Int32) (a0 : Nat) (l1 : Int32) (l2 : Int32) (l3 : Int32) (μ : Mm) : Option ((Int32) ⊕ ((Unit) ⊕ (Unit))) :=
  (some (l3 + (1 : Int32))).bind fun v120 => some (.inl v120)
noncomputable def f_X11_canAll_J96 (self : Nat → Int32 → Int32 → Mm → Option Int32) (a0 : Nat) (l1 : Int32) (l2 : Int32) (l3 : Int32) (k0 : Int32) (μ : Mm) : Option ((Int32) ⊕ ((Unit) ⊕ (Unit))) :=
  if k0 = 0 then f_X11_canAll_J120 self a0 l1 l2 l3 μ else (self a0 (l1 + (1 : Int32)) (l2 ||| ((1 : Int32) <<< (l3 &&& 31))) μ).bind fun x112 => if x112 = 0 then f_X11_canAll_J120 self a0 l1 l2 l3 μ else some (.inr (.inl ()))
noncomputable def f_X11_canAll_J95 (self : Nat → Int32 → Int32 → Mm → Option Int32) (a0 : Nat) (l1 : Int32) (l2 : Int32) (l3 : Int32) (μ : Mm) : Option ((Int32) ⊕ ((Unit) ⊕ (Unit))) :=
  f_X11_canAll_J96 self a0 l1 l2 l3 (0 : Int32) μ
noncomputable def f_X11_canAll_J91 (self : Nat → Int32 → Int32 → Mm → Option Int32) (a0 : Nat) (l1 : Int32) (l2 : Int32) (l3 : Int32) (μ : Mm) : Option ((Int32) ⊕ ((Unit) ⊕ (Unit))) :=
  f_X11_canAll_J96 self a0 l1 l2 l3 (1 : Int32) μ
noncomputable def f_X11_canAll_L32 (self : Nat → Int32 → Int32 → Mm → Option Int32) (a0 : Nat) (l1 : Int32) (l2 : Int32) (μ : Mm) (s32 : Int32) : Option ((Int32) ⊕ ((Unit) ⊕ (Unit))) :=
  (gf_P 12 12 a0 μ).bind fun x34 => (ga_I x34 (11 : Int32) μ).bind fun x39 => if x39 ≤ s32 then some (.inr (.inr ())) else if s32 = l1 then f_X11_canAll_J95 self a0 l1 l2 s32 μ else (f_X11_isAloneInDraft a0 s32 μ).bind fun x50 => if x50 = 0 then if ((l2 >>> (s32 &&& 31)) &&& (1 : Int32)) = 0 then (gf_P 12 14 a0 μ).bind fun x65 => (ga_I x65 ((8 : Int32) + l1) μ).bind fun x72 => if x72 = 0 then f_X11_canAll_J91 self a0 l1 l2 s32 μ else (gf_P 12 14 a0 μ).bind fun x77 => (ga_I x77 ((8 : Int32) + l1) μ).bind fun x84 => if x84 = (s32 + (1 : Int32)) then f_X11_canAll_J91 self a0 l1 l2 s32 μ else f_X11_canAll_J95 self a0 l1 l2 s32 μ else f_X11_canAll_J95 self a0 l1 l2 s32 μ else f_X11_canAll_J95 self a0 l1 l2 s32 μ
noncomputable def f_X11_canAll_B (self : Nat → Int32 → Int32 → Mm → Option Int32) (a0 : Nat) (l1 : Int32) (l2 : Int32) (μ : Mm) : Option Int32 :=
  if (mm_K μ a0).1 = 12 then (gf_P 12 12 a0 μ).bind fun x2 => (ga_I x2 (11 : Int32) μ).bind fun x7 => if l1 = x7 then some (1 : Int32) else (f_X11_isAloneInDraft a0 l1 μ).bind fun x15 => if x15 = 0 then (whl (f_X11_canAll_L32 self a0 l1 l2 μ) (0 : Int32)).bind (sm (fun b32 => some (1 : Int32)) (fun b32 => some (0 : Int32))) else (self a0 (l1 + (1 : Int32)) l2 μ).bind fun x26 => if x26 = 0 ∨ x26 = 1 then some x26 else none else none
noncomputable def f_X11_canAll : Nat → Nat → Int32 → Int32 → Mm → Option Int32
  | 0 => fun _ _ _ _ => none
  | n + 1 => f_X11_canAll_B (f_X11_canAll n)
abbrev Rn_X11_canAll (G : Gv) (Q : Option Value → Mm → Prop) (dd : Nat) (pc : Nat) (lv : List (Nat × Value)) (st : List Value) (μ : Mm) : Prop := Rn G RX11 cX11_canAll 5 (some .boolean) "canAll" (rmd (1 + dd) 0 0) (Zm G 0 0 Q) 0 0 pc lv st μ
theorem kd_X11_canAll {n : Nat} {a0 : Nat} {l1 : Int32} {l2 : Int32} {μ : Mm} {r : Int32} (h : f_X11_canAll n a0 l1 l2 μ = some r) : (mm_K μ a0).1 = 12 := by
  cases n with
  | zero => cases h
  | succ n => exact kd_of h
set_option maxRecDepth 100000 in
set_option maxHeartbeats 4000000 in
theorem m_X11_canAll {G : Gv} : ∀ (nn : Nat) (a0 : Nat) (l1 : Int32) (l2 : Int32) (μ : Mm) {r : Int32} (hx : f_X11_canAll nn a0 l1 l2 μ = some r), Mt G yX11_canAll cX11_canAll 5 (some .boolean) (1 + nn) 0 0 [.ref a0, .int l1, .int l2] μ (fun v μ' => v = some (.int r) ∧ μ' = μ) := by
  intro nn
  induction nn with
  | zero => intro a0 l1 l2 μ r hx; cases hx
  | succ nn ih =>
    intro a0 l1 l2 μ r hx
    obtain ⟨dd, hdd⟩ : ∃ dd, dd = nn + 1 := ⟨_, rfl⟩
    rw [← hdd]
    refine Mt.of (by decide) (Nat.le_of_ble_eq_true rfl) ?_
    show Rn_X11_canAll G (fun v μ' => v = some (.int r) ∧ μ' = μ) dd 0 [(0, .ref a0), (1, .int l1), (2, .int l2)] [] μ
    obtain ⟨_, h⟩ := Sat_ifp (show Sat (f_X11_canAll (nn + 1) a0 l1 l2 μ) (fun x => x = r) from ⟨_, hx, rfl⟩)
    refine r_iload_n dX11_canAll_0 1 rfl ?_
    refine r_aload_n dX11_canAll_1 0 rfl ?_
    obtain ⟨x2, e2, h⟩ := Sat_bind h
    refine r_getP fk_X11_17 rfl e2 dX11_canAll_2 ?_
    refine r_bipush (v := 11) dX11_canAll_5 (by decide) ?_
    obtain ⟨x7, e7, h⟩ := Sat_bind h
    refine r_iaload e7 dX11_canAll_7 ?_
    refine r_icmp_ne 13 dX11_canAll_8 (by decide) (fun c8 => ?_) (fun c8 => ?_)
    · have h := Sat_neg c8 h
      refine r_aload_n dX11_canAll_13 0 rfl ?_
      refine r_iload_n dX11_canAll_14 1 rfl ?_
      obtain ⟨x15, e15, h⟩ := Sat_bind h
      refine r_cV (t := 12) [.int l1] [] (m_X11_isAloneInDraft a0 l1 μ e15) ck_X11_isAloneInDraft lk_X11_260 in_X11_isAloneInDraft se_X11_isAloneInDraft (kd_of e15) ⟨rfl, by decide, by decide⟩ rfl rfl (Nat.le_of_ble_eq_true rfl) ⟨rm_f (by omega), rm_l (by omega)⟩ ⟨Nat.zero_le _, Nat.zero_le _⟩ dX11_canAll_15 ?_
      refine r_if_eq 30 dX11_canAll_18 (by decide) (fun c18 => ?_) (fun c18 => ?_)
      · have h := Sat_pos c18 h
        refine r_iconst (v := 0) dX11_canAll_30 (by decide) ?_
        refine r_istore_n (lv' := [(3, .int (0 : Int32)), (0, .ref a0), (1, .int l1), (2, .int l2)]) dX11_canAll_31 rfl (by decide) rfl ?_
        refine r_sub (lv' := [(0, .ref a0), (1, .int l1), (2, .int l2), (3, .int (0 : Int32))]) [1, 2, 3, 0] rfl ?_
        refine whl_K (s0 := ((0 : Int32) : Int32)) (RR := fun (s32 : Int32) => Rn_X11_canAll G (fun v μ' => v = some (.int r) ∧ μ' = μ) dd 32 [(0, .ref a0), (1, .int l1), (2, .int l2), (3, .int s32)] [] μ) ?_ (Sat_bindK h)
        intro s32 K32 hI32 hX32 h
        have J120 : ∀ (l3_120 : Int32), Sat (f_X11_canAll_J120 (f_X11_canAll nn) a0 l1 l2 l3_120 μ) K32 → Rn_X11_canAll G (fun v μ' => v = some (.int r) ∧ μ' = μ) dd 120 [(0, .ref a0), (1, .int l1), (2, .int l2), (3, .int l3_120)] [] μ := by
          intro l3_120 h
          obtain ⟨v120, e120, h⟩ := Sat_bind h
          refine r_iinc (j := 3) (v := v120) (lv' := [(3, .int v120), (0, .ref a0), (1, .int l1), (2, .int l2)]) dX11_canAll_120 rfl (iinc_v e120 (by decide)) (by decide) rfl ?_
          refine r_goto 32 dX11_canAll_123 (by decide) ?_
          exact r_sub [1, 2, 3, 0] rfl (hI32 _ (Sat_some h))
        have J96 : ∀ (l3_96 : Int32) (k0_96 : Int32), Sat (f_X11_canAll_J96 (f_X11_canAll nn) a0 l1 l2 l3_96 k0_96 μ) K32 → Rn_X11_canAll G (fun v μ' => v = some (.int r) ∧ μ' = μ) dd 96 [(0, .ref a0), (1, .int l1), (2, .int l2), (3, .int l3_96)] [.int k0_96] μ := by
          intro l3_96 k0_96 h
          refine r_istore (lv' := [(4, .int k0_96), (0, .ref a0), (1, .int l1), (2, .int l2), (3, .int l3_96)]) dX11_canAll_96 (by decide) rfl ?_
          refine r_iload dX11_canAll_98 0 rfl ?_
          refine r_if_eq 120 dX11_canAll_100 (by decide) (fun c100 => ?_) (fun c100 => ?_)
          · have h := Sat_pos c100 h
            exact r_sub [1, 2, 3, 4] rfl (J120 l3_96 h)
          · have h := Sat_neg c100 h
            refine r_aload_n dX11_canAll_103 1 rfl ?_
            refine r_iload_n dX11_canAll_104 2 rfl ?_
            refine r_iconst (v := 1) dX11_canAll_105 (by decide) ?_
            refine r_iadd dX11_canAll_106 ?_
            refine r_iload_n dX11_canAll_107 3 rfl ?_
            refine r_iconst (v := 1) dX11_canAll_108 (by decide) ?_
            refine r_iload_n dX11_canAll_109 4 rfl ?_
            refine r_ishl dX11_canAll_110 ?_
            refine r_ior dX11_canAll_111 ?_
            obtain ⟨x112, e112, h⟩ := Sat_bind h
            refine r_cV (t := 12) [.int (l1 + (1 : Int32)), .int (l2 ||| ((1 : Int32) <<< (l3_96 &&& 31)))] [] (ih a0 (l1 + (1 : Int32)) (l2 ||| ((1 : Int32) <<< (l3_96 &&& 31))) μ e112) ck_X11_canAll lk_X11_297 in_X11_canAll se_X11_canAll (kd_X11_canAll e112) ⟨rfl, by decide, by decide⟩ rfl rfl (Nat.le_of_ble_eq_true rfl) ⟨rm_f (by omega), rm_l (by omega)⟩ ⟨Nat.zero_le _, Nat.zero_le _⟩ dX11_canAll_112 ?_
            refine r_if_eq 120 dX11_canAll_115 (by decide) (fun c115 => ?_) (fun c115 => ?_)
            · have h := Sat_pos c115 h
              exact r_sub [1, 2, 3, 4] rfl (J120 l3_96 h)
            · have h := Sat_neg c115 h
              have h := hX32 _ (Sat_some h)
              refine r_iconst (v := 1) dX11_canAll_118 (by decide) ?_
              exact r_zreturn rfl (by decide) (by rw [← Sat_eq h]; exact ⟨rfl, rfl⟩) dX11_canAll_119
        have J95 : ∀ (l3_95 : Int32), Sat (f_X11_canAll_J95 (f_X11_canAll nn) a0 l1 l2 l3_95 μ) K32 → Rn_X11_canAll G (fun v μ' => v = some (.int r) ∧ μ' = μ) dd 95 [(0, .ref a0), (1, .int l1), (2, .int l2), (3, .int l3_95)] [] μ := by
          intro l3_95 h
          refine r_iconst (v := 0) dX11_canAll_95 (by decide) ?_
          exact r_sub [0, 1, 2, 3] rfl (J96 l3_95 (0 : Int32) h)
        have J91 : ∀ (l3_91 : Int32), Sat (f_X11_canAll_J91 (f_X11_canAll nn) a0 l1 l2 l3_91 μ) K32 → Rn_X11_canAll G (fun v μ' => v = some (.int r) ∧ μ' = μ) dd 91 [(0, .ref a0), (1, .int l1), (2, .int l2), (3, .int l3_91)] [] μ := by
          intro l3_91 h
          refine r_iconst (v := 1) dX11_canAll_91 (by decide) ?_
          refine r_goto 96 dX11_canAll_92 (by decide) ?_
          exact r_sub [0, 1, 2, 3] rfl (J96 l3_91 (1 : Int32) h)
        refine r_iload_n dX11_canAll_32 3 rfl ?_
        refine r_aload_n dX11_canAll_33 0 rfl ?_
        obtain ⟨x34, e34, h⟩ := Sat_bind h
        refine r_getP fk_X11_17 rfl e34 dX11_canAll_34 ?_
        refine r_bipush (v := 11) dX11_canAll_37 (by decide) ?_
        obtain ⟨x39, e39, h⟩ := Sat_bind h
        refine r_iaload e39 dX11_canAll_39 ?_
        refine r_icmp_ge 126 dX11_canAll_40 (by decide) (fun c40 => ?_) (fun c40 => ?_)
        · have h := Sat_pos c40 h
          have h := hX32 _ (Sat_some h)
          refine r_iconst (v := 0) dX11_canAll_126 (by decide) ?_
          exact r_zreturn rfl (by decide) (by rw [← Sat_eq h]; exact ⟨rfl, rfl⟩) dX11_canAll_127
        · have h := Sat_neg c40 h
          refine r_iload_n dX11_canAll_43 3 rfl ?_
          refine r_iload_n dX11_canAll_44 1 rfl ?_
          refine r_icmp_eq 95 dX11_canAll_45 (by decide) (fun c45 => ?_) (fun c45 => ?_)
          · have h := Sat_pos c45 h
            exact r_sub [0, 1, 2, 3] rfl (J95 s32 h)
          · have h := Sat_neg c45 h
            refine r_aload_n dX11_canAll_48 0 rfl ?_
            refine r_iload_n dX11_canAll_49 3 rfl ?_
            obtain ⟨x50, e50, h⟩ := Sat_bind h
            refine r_cV (t := 12) [.int s32] [] (m_X11_isAloneInDraft a0 s32 μ e50) ck_X11_isAloneInDraft lk_X11_260 in_X11_isAloneInDraft se_X11_isAloneInDraft (kd_of e50) ⟨rfl, by decide, by decide⟩ rfl rfl (Nat.le_of_ble_eq_true rfl) ⟨rm_f (by omega), rm_l (by omega)⟩ ⟨Nat.zero_le _, Nat.zero_le _⟩ dX11_canAll_50 ?_
            refine r_if_ne 95 dX11_canAll_53 (by decide) (fun c53 => ?_) (fun c53 => ?_)
            · have h := Sat_neg c53 h
              exact r_sub [0, 1, 2, 3] rfl (J95 s32 h)
            · have h := Sat_pos c53 h
              refine r_iload_n dX11_canAll_56 2 rfl ?_
              refine r_iload_n dX11_canAll_57 3 rfl ?_
              refine r_ishr dX11_canAll_58 ?_
              refine r_iconst (v := 1) dX11_canAll_59 (by decide) ?_
              refine r_iand dX11_canAll_60 ?_
              refine r_if_ne 95 dX11_canAll_61 (by decide) (fun c61 => ?_) (fun c61 => ?_)
              · have h := Sat_neg c61 h
                exact r_sub [0, 1, 2, 3] rfl (J95 s32 h)
              · have h := Sat_pos c61 h
                refine r_aload_n dX11_canAll_64 0 rfl ?_
                obtain ⟨x65, e65, h⟩ := Sat_bind h
                refine r_getP fk_X11_25 rfl e65 dX11_canAll_65 ?_
                refine r_bipush (v := 8) dX11_canAll_68 (by decide) ?_
                refine r_iload_n dX11_canAll_70 1 rfl ?_
                refine r_iadd dX11_canAll_71 ?_
                obtain ⟨x72, e72, h⟩ := Sat_bind h
                refine r_iaload e72 dX11_canAll_72 ?_
                refine r_if_eq 91 dX11_canAll_73 (by decide) (fun c73 => ?_) (fun c73 => ?_)
                · have h := Sat_pos c73 h
                  exact r_sub [0, 1, 2, 3] rfl (J91 s32 h)
                · have h := Sat_neg c73 h
                  refine r_aload_n dX11_canAll_76 0 rfl ?_
                  obtain ⟨x77, e77, h⟩ := Sat_bind h
                  refine r_getP fk_X11_25 rfl e77 dX11_canAll_77 ?_
                  refine r_bipush (v := 8) dX11_canAll_80 (by decide) ?_
                  refine r_iload_n dX11_canAll_82 1 rfl ?_
                  refine r_iadd dX11_canAll_83 ?_
                  obtain ⟨x84, e84, h⟩ := Sat_bind h
                  refine r_iaload e84 dX11_canAll_84 ?_
                  refine r_iload_n dX11_canAll_85 3 rfl ?_
                  refine r_iconst (v := 1) dX11_canAll_86 (by decide) ?_
                  refine r_iadd dX11_canAll_87 ?_
                  refine r_icmp_ne 95 dX11_canAll_88 (by decide) (fun c88 => ?_) (fun c88 => ?_)
                  · have h := Sat_neg c88 h
                    exact r_sub [0, 1, 2, 3] rfl (J95 s32 h)
                  · have h := Sat_pos c88 h
                    exact r_sub [0, 1, 2, 3] rfl (J91 s32 h)
      · have h := Sat_neg c18 h
        refine r_aload_n dX11_canAll_21 0 rfl ?_
        refine r_iload_n dX11_canAll_22 1 rfl ?_
        refine r_iconst (v := 1) dX11_canAll_23 (by decide) ?_
        refine r_iadd dX11_canAll_24 ?_
        refine r_iload_n dX11_canAll_25 2 rfl ?_
        obtain ⟨x26, e26, h⟩ := Sat_bind h
        refine r_cV (t := 12) [.int (l1 + (1 : Int32)), .int l2] [] (ih a0 (l1 + (1 : Int32)) l2 μ e26) ck_X11_canAll lk_X11_297 in_X11_canAll se_X11_canAll (kd_X11_canAll e26) ⟨rfl, by decide, by decide⟩ rfl rfl (Nat.le_of_ble_eq_true rfl) ⟨rm_f (by omega), rm_l (by omega)⟩ ⟨Nat.zero_le _, Nat.zero_le _⟩ dX11_canAll_26 ?_
        obtain ⟨hz, h⟩ := Sat_ifp h
        exact r_zreturn rfl hz (by rw [← Sat_eq h]; exact ⟨rfl, rfl⟩) dX11_canAll_29
    · have h := Sat_pos c8 h
      refine r_iconst (v := 1) dX11_canAll_11 (by decide) ?_
      exact r_zreturn rfl (by decide) (by rw [← Sat_eq h]; exact ⟨rfl, rfl⟩) dX11_canAll_12
theorem dX11_comes_0 : decode cX11_comes 0 = .ok (.iconst 0, 1) := by decide +kernel
theorem dX11_comes_1 : decode cX11_comes 1 = .ok (.istore_n 2, 1) := by decide +kernel
theorem dX11_comes_2 : decode cX11_comes 2 = .ok (.iload_n 2, 1) := by decide +kernel
theorem dX11_comes_3 : decode cX11_comes 3 = .ok (.iload_n 1, 1) := by decide +kernel
theorem dX11_comes_4 : decode cX11_comes 4 = .ok (.if_icmp .ge 17, 3) := by decide +kernel
theorem dX11_comes_7 : decode cX11_comes 7 = .ok (.aload_n 0, 1) := by decide +kernel
theorem dX11_comes_8 : decode cX11_comes 8 = .ok (.iload_n 2, 1) := by decide +kernel
theorem dX11_comes_9 : decode cX11_comes 9 = .ok (.aload_n 0, 1) := by decide +kernel
theorem dX11_comes_10 : decode cX11_comes 10 = .ok (.iload_n 1, 1) := by decide +kernel
theorem dX11_comes_11 : decode cX11_comes 11 = .ok (.iload_n 2, 1) := by decide +kernel
theorem dX11_comes_12 : decode cX11_comes 12 = .ok (.iadd, 1) := by decide +kernel
theorem dX11_comes_13 : decode cX11_comes 13 = .ok (.iaload, 1) := by decide +kernel
theorem dX11_comes_14 : decode cX11_comes 14 = .ok (.iastore, 1) := by decide +kernel
theorem dX11_comes_15 : decode cX11_comes 15 = .ok (.iinc 2 1, 3) := by decide +kernel
theorem dX11_comes_18 : decode cX11_comes 18 = .ok (.goto (-16), 3) := by decide +kernel
theorem dX11_comes_21 : decode cX11_comes 21 = .ok (.return_, 1) := by decide +kernel
noncomputable def f_X11_comes_L2 (l0 : Nat) (l1 : Int32) (s2 : Int32 × Mm) : Option ((Int32 × Mm) ⊕ (Mm)) :=
  if l1 ≤ s2.1 then some (.inr s2.2) else (ga_I l0 (l1 + s2.1) s2.2).bind fun x13 => (pa_I l0 s2.1 x13 s2.2).bind fun μ14 => (some (s2.1 + (1 : Int32))).bind fun v15 => some (.inl (v15, μ14))
noncomputable def f_X11_comes (l0 : Nat) (l1 : Int32) (μ : Mm) : Option Mm :=
  (whl (f_X11_comes_L2 l0 l1) ((0 : Int32), μ)).bind (fun b2 => some b2)
abbrev Rn_X11_comes (G : Gv) (Q : Option Value → Mm → Prop) (pc : Nat) (lv : List (Nat × Value)) (st : List Value) (μ : Mm) : Prop := Rn G RX11 cX11_comes 3 none "comes" (rmd 0 0 0) (Zm G 0 0 Q) 0 0 pc lv st μ
set_option maxRecDepth 100000 in
set_option maxHeartbeats 4000000 in
theorem m_X11_comes {G : Gv} (l0 : Nat) (l1 : Int32) (μ : Mm) {r : Mm} (hx : f_X11_comes l0 l1 μ = some r) : Mt G yX11_comes cX11_comes 3 none 0 0 0 [.ref l0, .int l1] μ (fun v μ' => v = none ∧ μ' = r) := by
  refine Mt.of (by decide) (Nat.le_of_ble_eq_true rfl) ?_
  show Rn_X11_comes G (fun v μ' => v = none ∧ μ' = r) 0 [(0, .ref l0), (1, .int l1)] [] μ
  have h : Sat (f_X11_comes l0 l1 μ) (fun x => x = r) := ⟨_, hx, rfl⟩
  refine r_iconst (v := 0) dX11_comes_0 (by decide) ?_
  refine r_istore_n (lv' := [(2, .int (0 : Int32)), (0, .ref l0), (1, .int l1)]) dX11_comes_1 rfl (by decide) rfl ?_
  refine r_sub (lv' := [(0, .ref l0), (1, .int l1), (2, .int (0 : Int32))]) [1, 2, 0] rfl ?_
  refine whl_K (s0 := (((0 : Int32), μ) : Int32 × Mm)) (RR := fun (s2 : Int32 × Mm) => Rn_X11_comes G (fun v μ' => v = none ∧ μ' = r) 2 [(0, .ref l0), (1, .int l1), (2, .int s2.1)] [] s2.2) ?_ (Sat_bindK h)
  intro s2 K2 hI2 hX2 h
  refine r_iload_n dX11_comes_2 2 rfl ?_
  refine r_iload_n dX11_comes_3 1 rfl ?_
  refine r_icmp_ge 21 dX11_comes_4 (by decide) (fun c4 => ?_) (fun c4 => ?_)
  · have h := Sat_pos c4 h
    have h := hX2 _ (Sat_some h)
    exact r_vreturn rfl (by rw [← Sat_eq h]; exact ⟨rfl, rfl⟩) dX11_comes_21
  · have h := Sat_neg c4 h
    refine r_aload_n dX11_comes_7 0 rfl ?_
    refine r_iload_n dX11_comes_8 2 rfl ?_
    refine r_aload_n dX11_comes_9 0 rfl ?_
    refine r_iload_n dX11_comes_10 1 rfl ?_
    refine r_iload_n dX11_comes_11 2 rfl ?_
    refine r_iadd dX11_comes_12 ?_
    obtain ⟨x13, e13, h⟩ := Sat_bind h
    refine r_iaload e13 dX11_comes_13 ?_
    obtain ⟨μ14, e14, h⟩ := Sat_bind h
    refine r_iastore e14 dX11_comes_14 ?_
    obtain ⟨v15, e15, h⟩ := Sat_bind h
    refine r_iinc (j := 2) (v := v15) (lv' := [(2, .int v15), (0, .ref l0), (1, .int l1)]) dX11_comes_15 rfl (iinc_v e15 (by decide)) (by decide) rfl ?_
    refine r_goto 2 dX11_comes_18 (by decide) ?_
    exact r_sub [1, 2, 0] rfl (hI2 _ (Sat_some h))
theorem dX11_live_0 : decode cX11_live 0 = .ok (.aload_n 0, 1) := by decide +kernel
theorem dX11_live_1 : decode cX11_live 1 = .ok (.invokevirtual 353, 3) := by decide +kernel
theorem dX11_live_4 : decode cX11_live 4 = .ok (.iconst 0, 1) := by decide +kernel
theorem dX11_live_5 : decode cX11_live 5 = .ok (.istore 6, 2) := by decide +kernel
theorem dX11_live_7 : decode cX11_live 7 = .ok (.iload 6, 2) := by decide +kernel
theorem dX11_live_9 : decode cX11_live 9 = .ok (.iload_n 3, 1) := by decide +kernel
theorem dX11_live_10 : decode cX11_live 10 = .ok (.if_icmp .gt 38, 3) := by decide +kernel
theorem dX11_live_13 : decode cX11_live 13 = .ok (.aload_n 0, 1) := by decide +kernel
theorem dX11_live_14 : decode cX11_live 14 = .ok (.lload_n 1, 1) := by decide +kernel
theorem dX11_live_15 : decode cX11_live 15 = .ok (.iload 6, 2) := by decide +kernel
theorem dX11_live_17 : decode cX11_live 17 = .ok (.iload 4, 2) := by decide +kernel
theorem dX11_live_19 : decode cX11_live 19 = .ok (.invokevirtual 356, 3) := by decide +kernel
theorem dX11_live_22 : decode cX11_live 22 = .ok (.iload 6, 2) := by decide +kernel
theorem dX11_live_24 : decode cX11_live 24 = .ok (.iload_n 3, 1) := by decide +kernel
theorem dX11_live_25 : decode cX11_live 25 = .ok (.if_icmp .lt 8, 3) := by decide +kernel
theorem dX11_live_28 : decode cX11_live 28 = .ok (.iload 5, 2) := by decide +kernel
theorem dX11_live_30 : decode cX11_live 30 = .ok (.ifCond .eq 12, 3) := by decide +kernel
theorem dX11_live_33 : decode cX11_live 33 = .ok (.aload_n 0, 1) := by decide +kernel
theorem dX11_live_34 : decode cX11_live 34 = .ok (.lload_n 1, 1) := by decide +kernel
theorem dX11_live_35 : decode cX11_live 35 = .ok (.iload 6, 2) := by decide +kernel
theorem dX11_live_37 : decode cX11_live 37 = .ok (.iload 4, 2) := by decide +kernel
theorem dX11_live_39 : decode cX11_live 39 = .ok (.invokevirtual 360, 3) := by decide +kernel
theorem dX11_live_42 : decode cX11_live 42 = .ok (.iinc 6 1, 3) := by decide +kernel
theorem dX11_live_45 : decode cX11_live 45 = .ok (.goto (-38), 3) := by decide +kernel
theorem dX11_live_48 : decode cX11_live 48 = .ok (.return_, 1) := by decide +kernel
noncomputable def f_X11_live_J42 (a0 : Nat) (l1 : Int64) (l3 : Int32) (l4 : Int32) (l5 : Int32) (l6 : Int32) (μ : Mm) : Option ((Int32 × Mm) ⊕ (Mm)) :=
  (some (l6 + (1 : Int32))).bind fun v42 => some (.inl (v42, μ))
noncomputable def f_X11_live_J33 (a0 : Nat) (l1 : Int64) (l3 : Int32) (l4 : Int32) (l5 : Int32) (l6 : Int32) (μ : Mm) : Option ((Int32 × Mm) ⊕ (Mm)) :=
  (f_X11_byNight a0 l1 l6 l4 μ).bind fun x39 => f_X11_live_J42 a0 l1 l3 l4 l5 l6 x39
noncomputable def f_X11_live_L7 (a0 : Nat) (l1 : Int64) (l3 : Int32) (l4 : Int32) (l5 : Int32) (s7 : Int32 × Mm) : Option ((Int32 × Mm) ⊕ (Mm)) :=
  if l3 < s7.1 then some (.inr s7.2) else (f_X11_byDay a0 l1 s7.1 l4 s7.2).bind fun x19 => if s7.1 < l3 then f_X11_live_J33 a0 l1 l3 l4 l5 s7.1 x19 else if l5 = 0 then f_X11_live_J42 a0 l1 l3 l4 l5 s7.1 x19 else f_X11_live_J33 a0 l1 l3 l4 l5 s7.1 x19
noncomputable def f_X11_live (a0 : Nat) (l1 : Int64) (l3 : Int32) (l4 : Int32) (l5 : Int32) (μ : Mm) : Option Mm :=
  if (mm_K μ a0).1 = 12 then (f_X11_forget a0 μ).bind fun x1 => (whl (f_X11_live_L7 a0 l1 l3 l4 l5) ((0 : Int32), x1)).bind (fun b7 => some b7) else none
abbrev Rn_X11_live (G : Gv) (Q : Option Value → Mm → Prop) (pc : Nat) (lv : List (Nat × Value)) (st : List Value) (μ : Mm) : Prop := Rn G RX11 cX11_live 7 none "live" (rmd 3 0 0) (Zm G 0 0 Q) 0 0 pc lv st μ
set_option maxRecDepth 100000 in
set_option maxHeartbeats 4000000 in
theorem m_X11_live {G : Gv} (a0 : Nat) (l1 : Int64) (l3 : Int32) (l4 : Int32) (l5 : Int32) (μ : Mm) {r : Mm} (hx : f_X11_live a0 l1 l3 l4 l5 μ = some r) : Mt G yX11_live cX11_live 7 none 3 0 0 [.ref a0, .long l1, .int l3, .int l4, .int l5] μ (fun v μ' => v = none ∧ μ' = r) := by
  refine Mt.of (by decide) (Nat.le_of_ble_eq_true rfl) ?_
  show Rn_X11_live G (fun v μ' => v = none ∧ μ' = r) 0 [(0, .ref a0), (1, .long l1), (3, .int l3), (4, .int l4), (5, .int l5)] [] μ
  obtain ⟨_, h⟩ := Sat_ifp (show Sat (f_X11_live a0 l1 l3 l4 l5 μ) (fun x => x = r) from ⟨_, hx, rfl⟩)
  refine r_aload_n dX11_live_0 0 rfl ?_
  obtain ⟨x1, e1, h⟩ := Sat_bind h
  refine r_cV (t := 12) [] [] (m_X11_forget a0 μ e1) ck_X11_forget lk_X11_353 in_X11_forget se_X11_forget (kd_of e1) ⟨rfl, by decide, by decide⟩ rfl rfl (Nat.le_of_ble_eq_true rfl) ⟨by decide, by decide⟩ ⟨Nat.zero_le _, Nat.zero_le _⟩ dX11_live_1 ?_
  refine r_iconst (v := 0) dX11_live_4 (by decide) ?_
  refine r_istore (lv' := [(6, .int (0 : Int32)), (0, .ref a0), (1, .long l1), (3, .int l3), (4, .int l4), (5, .int l5)]) dX11_live_5 (by decide) rfl ?_
  refine r_sub (lv' := [(0, .ref a0), (1, .long l1), (3, .int l3), (4, .int l4), (5, .int l5), (6, .int (0 : Int32))]) [1, 2, 3, 4, 5, 0] rfl ?_
  refine whl_K (s0 := (((0 : Int32), x1) : Int32 × Mm)) (RR := fun (s7 : Int32 × Mm) => Rn_X11_live G (fun v μ' => v = none ∧ μ' = r) 7 [(0, .ref a0), (1, .long l1), (3, .int l3), (4, .int l4), (5, .int l5), (6, .int s7.1)] [] s7.2) ?_ (Sat_bindK h)
  intro s7 K7 hI7 hX7 h
  have J42 : ∀ (l6_42 : Int32) (μ_42 : Mm), Sat (f_X11_live_J42 a0 l1 l3 l4 l5 l6_42 μ_42) K7 → Rn_X11_live G (fun v μ' => v = none ∧ μ' = r) 42 [(0, .ref a0), (1, .long l1), (3, .int l3), (4, .int l4), (5, .int l5), (6, .int l6_42)] [] μ_42 := by
    intro l6_42 μ_42 h
    obtain ⟨v42, e42, h⟩ := Sat_bind h
    refine r_iinc (j := 5) (v := v42) (lv' := [(6, .int v42), (0, .ref a0), (1, .long l1), (3, .int l3), (4, .int l4), (5, .int l5)]) dX11_live_42 rfl (iinc_v e42 (by decide)) (by decide) rfl ?_
    refine r_goto 7 dX11_live_45 (by decide) ?_
    exact r_sub [1, 2, 3, 4, 5, 0] rfl (hI7 _ (Sat_some h))
  have J33 : ∀ (l6_33 : Int32) (μ_33 : Mm), Sat (f_X11_live_J33 a0 l1 l3 l4 l5 l6_33 μ_33) K7 → Rn_X11_live G (fun v μ' => v = none ∧ μ' = r) 33 [(0, .ref a0), (1, .long l1), (3, .int l3), (4, .int l4), (5, .int l5), (6, .int l6_33)] [] μ_33 := by
    intro l6_33 μ_33 h
    refine r_aload_n dX11_live_33 0 rfl ?_
    refine r_lload_n dX11_live_34 1 rfl ?_
    refine r_iload dX11_live_35 5 rfl ?_
    refine r_iload dX11_live_37 3 rfl ?_
    obtain ⟨x39, e39, h⟩ := Sat_bind h
    refine r_cV (t := 12) [.long l1, .int l6_33, .int l4] [] (m_X11_byNight a0 l1 l6_33 l4 μ_33 e39) ck_X11_byNight lk_X11_360 in_X11_byNight se_X11_byNight (kd_of e39) ⟨rfl, by decide, by decide⟩ rfl rfl (Nat.le_of_ble_eq_true rfl) ⟨by decide, by decide⟩ ⟨Nat.zero_le _, Nat.zero_le _⟩ dX11_live_39 ?_
    exact r_sub [0, 1, 2, 3, 4, 5] rfl (J42 l6_33 x39 h)
  refine r_iload dX11_live_7 5 rfl ?_
  refine r_iload_n dX11_live_9 2 rfl ?_
  refine r_icmp_gt 48 dX11_live_10 (by decide) (fun c10 => ?_) (fun c10 => ?_)
  · have h := Sat_pos c10 h
    have h := hX7 _ (Sat_some h)
    exact r_vreturn rfl (by rw [← Sat_eq h]; exact ⟨rfl, rfl⟩) dX11_live_48
  · have h := Sat_neg c10 h
    refine r_aload_n dX11_live_13 0 rfl ?_
    refine r_lload_n dX11_live_14 1 rfl ?_
    refine r_iload dX11_live_15 5 rfl ?_
    refine r_iload dX11_live_17 3 rfl ?_
    obtain ⟨x19, e19, h⟩ := Sat_bind h
    refine r_cV (t := 12) [.long l1, .int s7.1, .int l4] [] (m_X11_byDay a0 l1 s7.1 l4 s7.2 e19) ck_X11_byDay lk_X11_356 in_X11_byDay se_X11_byDay (kd_of e19) ⟨rfl, by decide, by decide⟩ rfl rfl (Nat.le_of_ble_eq_true rfl) ⟨by decide, by decide⟩ ⟨Nat.zero_le _, Nat.zero_le _⟩ dX11_live_19 ?_
    refine r_iload dX11_live_22 5 rfl ?_
    refine r_iload_n dX11_live_24 2 rfl ?_
    refine r_icmp_lt 33 dX11_live_25 (by decide) (fun c25 => ?_) (fun c25 => ?_)
    · have h := Sat_pos c25 h
      exact r_sub [0, 1, 2, 3, 4, 5] rfl (J33 s7.1 x19 h)
    · have h := Sat_neg c25 h
      refine r_iload dX11_live_28 4 rfl ?_
      refine r_if_eq 42 dX11_live_30 (by decide) (fun c30 => ?_) (fun c30 => ?_)
      · have h := Sat_pos c30 h
        exact r_sub [0, 1, 2, 3, 4, 5] rfl (J42 s7.1 x19 h)
      · have h := Sat_neg c30 h
        exact r_sub [0, 1, 2, 3, 4, 5] rfl (J33 s7.1 x19 h)
theorem dX11_comes__0 : decode cX11_comes_ 0 = .ok (.aload_n 0, 1) := by decide +kernel
theorem dX11_comes__1 : decode cX11_comes_ 1 = .ok (.iload_n 1, 1) := by decide +kernel
theorem dX11_comes__2 : decode cX11_comes_ 2 = .ok (.invokevirtual 309, 3) := by decide +kernel
theorem dX11_comes__5 : decode cX11_comes_ 5 = .ok (.ifCond .eq 28, 3) := by decide +kernel
theorem dX11_comes__8 : decode cX11_comes_ 8 = .ok (.aload_n 0, 1) := by decide +kernel
theorem dX11_comes__9 : decode cX11_comes_ 9 = .ok (.iload_n 2, 1) := by decide +kernel
theorem dX11_comes__10 : decode cX11_comes_ 10 = .ok (.invokevirtual 315, 3) := by decide +kernel
theorem dX11_comes__13 : decode cX11_comes_ 13 = .ok (.ifCond .eq 20, 3) := by decide +kernel
theorem dX11_comes__16 : decode cX11_comes_ 16 = .ok (.iload_n 3, 1) := by decide +kernel
theorem dX11_comes__17 : decode cX11_comes_ 17 = .ok (.invokestatic 366, 3) := by decide +kernel
theorem dX11_comes__20 : decode cX11_comes_ 20 = .ok (.ifCond .eq 13, 3) := by decide +kernel
theorem dX11_comes__23 : decode cX11_comes_ 23 = .ok (.iload 4, 2) := by decide +kernel
theorem dX11_comes__25 : decode cX11_comes_ 25 = .ok (.iconst 0, 1) := by decide +kernel
theorem dX11_comes__26 : decode cX11_comes_ 26 = .ok (.iconst 2, 1) := by decide +kernel
theorem dX11_comes__27 : decode cX11_comes_ 27 = .ok (.invokestatic 217, 3) := by decide +kernel
theorem dX11_comes__30 : decode cX11_comes_ 30 = .ok (.ifCond .ne 6, 3) := by decide +kernel
theorem dX11_comes__33 : decode cX11_comes_ 33 = .ok (.bipush (-2), 2) := by decide +kernel
theorem dX11_comes__35 : decode cX11_comes_ 35 = .ok (.ireturn, 1) := by decide +kernel
theorem dX11_comes__36 : decode cX11_comes_ 36 = .ok (.aload_n 0, 1) := by decide +kernel
theorem dX11_comes__37 : decode cX11_comes_ 37 = .ok (.iload_n 1, 1) := by decide +kernel
theorem dX11_comes__38 : decode cX11_comes_ 38 = .ok (.putfield 340, 3) := by decide +kernel
theorem dX11_comes__41 : decode cX11_comes_ 41 = .ok (.aload_n 0, 1) := by decide +kernel
theorem dX11_comes__42 : decode cX11_comes_ 42 = .ok (.iload_n 2, 1) := by decide +kernel
theorem dX11_comes__43 : decode cX11_comes_ 43 = .ok (.putfield 343, 3) := by decide +kernel
theorem dX11_comes__46 : decode cX11_comes_ 46 = .ok (.aload_n 0, 1) := by decide +kernel
theorem dX11_comes__47 : decode cX11_comes_ 47 = .ok (.aload_n 0, 1) := by decide +kernel
theorem dX11_comes__48 : decode cX11_comes_ 48 = .ok (.getfield 73, 3) := by decide +kernel
theorem dX11_comes__51 : decode cX11_comes_ 51 = .ok (.aload_n 0, 1) := by decide +kernel
theorem dX11_comes__52 : decode cX11_comes_ 52 = .ok (.getfield 241, 3) := by decide +kernel
theorem dX11_comes__55 : decode cX11_comes_ 55 = .ok (.laload, 1) := by decide +kernel
theorem dX11_comes__56 : decode cX11_comes_ 56 = .ok (.bipush 27, 2) := by decide +kernel
theorem dX11_comes__58 : decode cX11_comes_ 58 = .ok (.iload_n 3, 1) := by decide +kernel
theorem dX11_comes__59 : decode cX11_comes_ 59 = .ok (.iconst 1, 1) := by decide +kernel
theorem dX11_comes__60 : decode cX11_comes_ 60 = .ok (.invokevirtual 369, 3) := by decide +kernel
theorem dX11_comes__63 : decode cX11_comes_ 63 = .ok (.iload 4, 2) := by decide +kernel
theorem dX11_comes__65 : decode cX11_comes_ 65 = .ok (.ifCond .ne 10, 3) := by decide +kernel
theorem dX11_comes__68 : decode cX11_comes_ 68 = .ok (.aload_n 0, 1) := by decide +kernel
theorem dX11_comes__69 : decode cX11_comes_ 69 = .ok (.getfield 328, 3) := by decide +kernel
theorem dX11_comes__72 : decode cX11_comes_ 72 = .ok (.goto 20, 3) := by decide +kernel
theorem dX11_comes__75 : decode cX11_comes_ 75 = .ok (.iload 4, 2) := by decide +kernel
theorem dX11_comes__77 : decode cX11_comes_ 77 = .ok (.iconst 1, 1) := by decide +kernel
theorem dX11_comes__78 : decode cX11_comes_ 78 = .ok (.if_icmp .ne 10, 3) := by decide +kernel
theorem dX11_comes__81 : decode cX11_comes_ 81 = .ok (.aload_n 0, 1) := by decide +kernel
theorem dX11_comes__82 : decode cX11_comes_ 82 = .ok (.getfield 331, 3) := by decide +kernel
theorem dX11_comes__85 : decode cX11_comes_ 85 = .ok (.goto 7, 3) := by decide +kernel
theorem dX11_comes__88 : decode cX11_comes_ 88 = .ok (.aload_n 0, 1) := by decide +kernel
theorem dX11_comes__89 : decode cX11_comes_ 89 = .ok (.getfield 334, 3) := by decide +kernel
theorem dX11_comes__92 : decode cX11_comes_ 92 = .ok (.ireturn, 1) := by decide +kernel
noncomputable def f_X11_comes_ (a0 : Nat) (l1 : Int32) (l2 : Int32) (l3 : Int32) (l4 : Int32) (μ : Mm) : Option (Int32 × Mm) :=
  if (mm_K μ a0).1 = 12 then (f_X11_isPerson a0 l1 μ).bind fun x2 => if x2 = 0 then some ((-2 : Int32), μ) else (f_X11_isFact a0 l2 μ).bind fun x10 => if x10 = 0 then some ((-2 : Int32), μ) else (f_X11_areWays l3 μ).bind fun x17 => if x17 = 0 then some ((-2 : Int32), μ) else (f_X11_in l4 (0 : Int32) (2 : Int32) μ).bind fun x27 => if x27 = 0 then some ((-2 : Int32), μ) else (pf_I 12 38 a0 l1 μ).bind fun μ38 => (pf_I 12 39 a0 l2 μ38).bind fun μ43 => (gf_P 12 34 a0 μ43).bind fun x48 => (gf_I 12 33 a0 μ43).bind fun x52 => (ga_L x48 x52 μ43).bind fun x55 => (f_X11_live a0 x55 (27 : Int32) l3 (1 : Int32) μ43).bind fun x60 => if l4 = 0 then (gf_I 12 40 a0 x60).bind fun x69 => some (x69, x60) else if l4 = (1 : Int32) then (gf_I 12 41 a0 x60).bind fun x82 => some (x82, x60) else (gf_I 12 42 a0 x60).bind fun x89 => some (x89, x60) else none
abbrev Rn_X11_comes_ (G : Gv) (Q : Option Value → Mm → Prop) (pc : Nat) (lv : List (Nat × Value)) (st : List Value) (μ : Mm) : Prop := Rn G RX11 cX11_comes_ 5 (some .int) "comes" (rmd 4 0 0) (Zm G 0 0 Q) 0 0 pc lv st μ
set_option maxRecDepth 100000 in
set_option maxHeartbeats 4000000 in
theorem m_X11_comes_ {G : Gv} (a0 : Nat) (l1 : Int32) (l2 : Int32) (l3 : Int32) (l4 : Int32) (μ : Mm) {r : (Int32 × Mm)} (hx : f_X11_comes_ a0 l1 l2 l3 l4 μ = some r) : Mt G yX11_comes_ cX11_comes_ 5 (some .int) 4 0 0 [.ref a0, .int l1, .int l2, .int l3, .int l4] μ (fun v μ' => v = some (.int r.1) ∧ μ' = r.2) := by
  refine Mt.of (by decide) (Nat.le_of_ble_eq_true rfl) ?_
  show Rn_X11_comes_ G (fun v μ' => v = some (.int r.1) ∧ μ' = r.2) 0 [(0, .ref a0), (1, .int l1), (2, .int l2), (3, .int l3), (4, .int l4)] [] μ
  obtain ⟨_, h⟩ := Sat_ifp (show Sat (f_X11_comes_ a0 l1 l2 l3 l4 μ) (fun x => x = r) from ⟨_, hx, rfl⟩)
  refine r_aload_n dX11_comes__0 0 rfl ?_
  refine r_iload_n dX11_comes__1 1 rfl ?_
  obtain ⟨x2, e2, h⟩ := Sat_bind h
  refine r_cV (t := 12) [.int l1] [] (m_X11_isPerson a0 l1 μ e2) ck_X11_isPerson lk_X11_309 in_X11_isPerson se_X11_isPerson (kd_of e2) ⟨rfl, by decide, by decide⟩ rfl rfl (Nat.le_of_ble_eq_true rfl) ⟨by decide, by decide⟩ ⟨Nat.zero_le _, Nat.zero_le _⟩ dX11_comes__2 ?_
  refine r_if_eq 33 dX11_comes__5 (by decide) (fun c5 => ?_) (fun c5 => ?_)
  · have h := Sat_pos c5 h
    refine r_bipush (v := -2) dX11_comes__33 (by decide) ?_
    exact r_ireturn rfl (by rw [← Sat_eq h]; exact ⟨rfl, rfl⟩) dX11_comes__35
  · have h := Sat_neg c5 h
    refine r_aload_n dX11_comes__8 0 rfl ?_
    refine r_iload_n dX11_comes__9 2 rfl ?_
    obtain ⟨x10, e10, h⟩ := Sat_bind h
    refine r_cV (t := 12) [.int l2] [] (m_X11_isFact a0 l2 μ e10) ck_X11_isFact lk_X11_315 in_X11_isFact se_X11_isFact (kd_of e10) ⟨rfl, by decide, by decide⟩ rfl rfl (Nat.le_of_ble_eq_true rfl) ⟨by decide, by decide⟩ ⟨Nat.zero_le _, Nat.zero_le _⟩ dX11_comes__10 ?_
    refine r_if_eq 33 dX11_comes__13 (by decide) (fun c13 => ?_) (fun c13 => ?_)
    · have h := Sat_pos c13 h
      refine r_bipush (v := -2) dX11_comes__33 (by decide) ?_
      exact r_ireturn rfl (by rw [← Sat_eq h]; exact ⟨rfl, rfl⟩) dX11_comes__35
    · have h := Sat_neg c13 h
      refine r_iload_n dX11_comes__16 3 rfl ?_
      obtain ⟨x17, e17, h⟩ := Sat_bind h
      refine r_cS [.int l3] [] (m_X11_areWays l3 μ e17) ck_X11_areWays lk_X11_366 st_X11_areWays rfl rfl (Nat.le_of_ble_eq_true rfl) ⟨by decide, by decide⟩ ⟨Nat.zero_le _, Nat.zero_le _⟩ dX11_comes__17 ?_
      refine r_if_eq 33 dX11_comes__20 (by decide) (fun c20 => ?_) (fun c20 => ?_)
      · have h := Sat_pos c20 h
        refine r_bipush (v := -2) dX11_comes__33 (by decide) ?_
        exact r_ireturn rfl (by rw [← Sat_eq h]; exact ⟨rfl, rfl⟩) dX11_comes__35
      · have h := Sat_neg c20 h
        refine r_iload dX11_comes__23 4 rfl ?_
        refine r_iconst (v := 0) dX11_comes__25 (by decide) ?_
        refine r_iconst (v := 2) dX11_comes__26 (by decide) ?_
        obtain ⟨x27, e27, h⟩ := Sat_bind h
        refine r_cS [.int l4, .int (0 : Int32), .int (2 : Int32)] [] (m_X11_in l4 (0 : Int32) (2 : Int32) μ e27) ck_X11_in lk_X11_217 st_X11_in rfl rfl (Nat.le_of_ble_eq_true rfl) ⟨by decide, by decide⟩ ⟨Nat.zero_le _, Nat.zero_le _⟩ dX11_comes__27 ?_
        refine r_if_ne 36 dX11_comes__30 (by decide) (fun c30 => ?_) (fun c30 => ?_)
        · have h := Sat_neg c30 h
          refine r_aload_n dX11_comes__36 0 rfl ?_
          refine r_iload_n dX11_comes__37 1 rfl ?_
          obtain ⟨μ38, e38, h⟩ := Sat_bind h
          refine r_putI fk_X11_340 rfl rfl e38 dX11_comes__38 ?_
          refine r_aload_n dX11_comes__41 0 rfl ?_
          refine r_iload_n dX11_comes__42 2 rfl ?_
          obtain ⟨μ43, e43, h⟩ := Sat_bind h
          refine r_putI fk_X11_343 rfl rfl e43 dX11_comes__43 ?_
          refine r_aload_n dX11_comes__46 0 rfl ?_
          refine r_aload_n dX11_comes__47 0 rfl ?_
          obtain ⟨x48, e48, h⟩ := Sat_bind h
          refine r_getP fk_X11_73 rfl e48 dX11_comes__48 ?_
          refine r_aload_n dX11_comes__51 0 rfl ?_
          obtain ⟨x52, e52, h⟩ := Sat_bind h
          refine r_getI fk_X11_241 rfl e52 dX11_comes__52 ?_
          obtain ⟨x55, e55, h⟩ := Sat_bind h
          refine r_laload e55 dX11_comes__55 ?_
          refine r_bipush (v := 27) dX11_comes__56 (by decide) ?_
          refine r_iload_n dX11_comes__58 3 rfl ?_
          refine r_iconst (v := 1) dX11_comes__59 (by decide) ?_
          obtain ⟨x60, e60, h⟩ := Sat_bind h
          refine r_cV (t := 12) [.long x55, .int (27 : Int32), .int l3, .int (1 : Int32)] [] (m_X11_live a0 x55 (27 : Int32) l3 (1 : Int32) μ43 e60) ck_X11_live lk_X11_369 in_X11_live se_X11_live (kd_of e60) ⟨rfl, by decide, by decide⟩ rfl rfl (Nat.le_of_ble_eq_true rfl) ⟨by decide, by decide⟩ ⟨Nat.zero_le _, Nat.zero_le _⟩ dX11_comes__60 ?_
          refine r_iload dX11_comes__63 4 rfl ?_
          refine r_if_ne 75 dX11_comes__65 (by decide) (fun c65 => ?_) (fun c65 => ?_)
          · have h := Sat_neg c65 h
            refine r_iload dX11_comes__75 4 rfl ?_
            refine r_iconst (v := 1) dX11_comes__77 (by decide) ?_
            refine r_icmp_ne 88 dX11_comes__78 (by decide) (fun c78 => ?_) (fun c78 => ?_)
            · have h := Sat_neg c78 h
              refine r_aload_n dX11_comes__88 0 rfl ?_
              obtain ⟨x89, e89, h⟩ := Sat_bind h
              refine r_getI fk_X11_334 rfl e89 dX11_comes__89 ?_
              exact r_ireturn rfl (by rw [← Sat_eq h]; exact ⟨rfl, rfl⟩) dX11_comes__92
            · have h := Sat_pos c78 h
              refine r_aload_n dX11_comes__81 0 rfl ?_
              obtain ⟨x82, e82, h⟩ := Sat_bind h
              refine r_getI fk_X11_331 rfl e82 dX11_comes__82 ?_
              refine r_goto 92 dX11_comes__85 (by decide) ?_
              exact r_ireturn rfl (by rw [← Sat_eq h]; exact ⟨rfl, rfl⟩) dX11_comes__92
          · have h := Sat_pos c65 h
            refine r_aload_n dX11_comes__68 0 rfl ?_
            obtain ⟨x69, e69, h⟩ := Sat_bind h
            refine r_getI fk_X11_328 rfl e69 dX11_comes__69 ?_
            refine r_goto 92 dX11_comes__72 (by decide) ?_
            exact r_ireturn rfl (by rw [← Sat_eq h]; exact ⟨rfl, rfl⟩) dX11_comes__92
        · have h := Sat_pos c30 h
          refine r_bipush (v := -2) dX11_comes__33 (by decide) ?_
          exact r_ireturn rfl (by rw [← Sat_eq h]; exact ⟨rfl, rfl⟩) dX11_comes__35
theorem dX11_common_0 : decode cX11_common 0 = .ok (.iload_n 0, 1) := by decide +kernel
theorem dX11_common_1 : decode cX11_common 1 = .ok (.istore_n 2, 1) := by decide +kernel
theorem dX11_common_2 : decode cX11_common 2 = .ok (.iload_n 1, 1) := by decide +kernel
theorem dX11_common_3 : decode cX11_common 3 = .ok (.istore_n 3, 1) := by decide +kernel
theorem dX11_common_4 : decode cX11_common 4 = .ok (.iload_n 3, 1) := by decide +kernel
theorem dX11_common_5 : decode cX11_common 5 = .ok (.ifCond .eq 16, 3) := by decide +kernel
theorem dX11_common_8 : decode cX11_common 8 = .ok (.iload_n 2, 1) := by decide +kernel
theorem dX11_common_9 : decode cX11_common 9 = .ok (.iload_n 3, 1) := by decide +kernel
theorem dX11_common_10 : decode cX11_common 10 = .ok (.irem, 1) := by decide +kernel
theorem dX11_common_11 : decode cX11_common 11 = .ok (.istore 4, 2) := by decide +kernel
theorem dX11_common_13 : decode cX11_common 13 = .ok (.iload_n 3, 1) := by decide +kernel
theorem dX11_common_14 : decode cX11_common 14 = .ok (.istore_n 2, 1) := by decide +kernel
theorem dX11_common_15 : decode cX11_common 15 = .ok (.iload 4, 2) := by decide +kernel
theorem dX11_common_17 : decode cX11_common 17 = .ok (.istore_n 3, 1) := by decide +kernel
theorem dX11_common_18 : decode cX11_common 18 = .ok (.goto (-14), 3) := by decide +kernel
theorem dX11_common_21 : decode cX11_common 21 = .ok (.iload_n 2, 1) := by decide +kernel
theorem dX11_common_22 : decode cX11_common 22 = .ok (.ireturn, 1) := by decide +kernel
noncomputable def f_X11_common_L4  (μ : Mm) (s4 : Int32 × Int32) : Option ((Int32 × Int32) ⊕ (Int32)) :=
  if s4.2 = 0 then some (.inr s4.1) else if s4.2 = 0 then none else (some (s4.1 - s4.1 / s4.2 * s4.2)).bind fun v11 => some (.inl (s4.2, v11))
noncomputable def f_X11_common (l0 : Int32) (l1 : Int32) (μ : Mm) : Option Int32 :=
  (whl (f_X11_common_L4 μ) (l0, l1)).bind (fun b4 => some b4)
abbrev Rn_X11_common (G : Gv) (Q : Option Value → Mm → Prop) (pc : Nat) (lv : List (Nat × Value)) (st : List Value) (μ : Mm) : Prop := Rn G RX11 cX11_common 5 (some .int) "common" (rmd 0 0 0) (Zm G 0 0 Q) 0 0 pc lv st μ
set_option maxRecDepth 100000 in
set_option maxHeartbeats 4000000 in
theorem m_X11_common {G : Gv} (l0 : Int32) (l1 : Int32) (μ : Mm) {r : Int32} (hx : f_X11_common l0 l1 μ = some r) : Mt G yX11_common cX11_common 5 (some .int) 0 0 0 [.int l0, .int l1] μ (fun v μ' => v = some (.int r) ∧ μ' = μ) := by
  refine Mt.of (by decide) (Nat.le_of_ble_eq_true rfl) ?_
  show Rn_X11_common G (fun v μ' => v = some (.int r) ∧ μ' = μ) 0 [(0, .int l0), (1, .int l1)] [] μ
  have h : Sat (f_X11_common l0 l1 μ) (fun x => x = r) := ⟨_, hx, rfl⟩
  refine r_iload_n dX11_common_0 0 rfl ?_
  refine r_istore_n (lv' := [(2, .int l0), (0, .int l0), (1, .int l1)]) dX11_common_1 rfl (by decide) rfl ?_
  refine r_iload_n dX11_common_2 2 rfl ?_
  refine r_istore_n (lv' := [(3, .int l1), (2, .int l0), (0, .int l0), (1, .int l1)]) dX11_common_3 rfl (by decide) rfl ?_
  refine r_sub (lv' := [(2, .int l0), (3, .int l1)]) [1, 0] rfl ?_
  refine whl_K (s0 := ((l0, l1) : Int32 × Int32)) (RR := fun (s4 : Int32 × Int32) => Rn_X11_common G (fun v μ' => v = some (.int r) ∧ μ' = μ) 4 [(2, .int s4.1), (3, .int s4.2)] [] μ) ?_ (Sat_bindK h)
  intro s4 K4 hI4 hX4 h
  refine r_iload_n dX11_common_4 1 rfl ?_
  refine r_if_eq 21 dX11_common_5 (by decide) (fun c5 => ?_) (fun c5 => ?_)
  · have h := Sat_pos c5 h
    have h := hX4 _ (Sat_some h)
    refine r_iload_n dX11_common_21 0 rfl ?_
    exact r_ireturn rfl (by rw [← Sat_eq h]; exact ⟨rfl, rfl⟩) dX11_common_22
  · have h := Sat_neg c5 h
    refine r_iload_n dX11_common_8 0 rfl ?_
    refine r_iload_n dX11_common_9 1 rfl ?_
    obtain ⟨z10, h⟩ := Sat_ifn h
    refine r_irem dX11_common_10 z10 ?_
    obtain ⟨v11, e11, h⟩ := Sat_bind h
    refine r_topi (Option.some.inj e11) ?_
    refine r_istore (lv' := [(4, .int v11), (2, .int s4.1), (3, .int s4.2)]) dX11_common_11 (by decide) rfl ?_
    refine r_iload_n dX11_common_13 2 rfl ?_
    refine r_istore_n (lv' := [(2, .int s4.2), (4, .int v11), (3, .int s4.2)]) dX11_common_14 rfl (by decide) rfl ?_
    refine r_iload dX11_common_15 1 rfl ?_
    refine r_istore_n (lv' := [(3, .int v11), (2, .int s4.2), (4, .int v11)]) dX11_common_17 rfl (by decide) rfl ?_
    refine r_goto 4 dX11_common_18 (by decide) ?_
    exact r_sub [1, 0] rfl (hI4 _ (Sat_some h))
theorem dX11_count_0 : decode cX11_count 0 = .ok (.iload_n 1, 1) := by decide +kernel
theorem dX11_count_1 : decode cX11_count 1 = .ok (.tableswitch 71 0 4 #[35, 40, 45, 50, 66], 35) := by decide +kernel
theorem dX11_count_36 : decode cX11_count 36 = .ok (.aload_n 0, 1) := by decide +kernel
theorem dX11_count_37 : decode cX11_count 37 = .ok (.getfield 306, 3) := by decide +kernel
theorem dX11_count_40 : decode cX11_count 40 = .ok (.ireturn, 1) := by decide +kernel
theorem dX11_count_41 : decode cX11_count 41 = .ok (.aload_n 0, 1) := by decide +kernel
theorem dX11_count_42 : decode cX11_count 42 = .ok (.getfield 244, 3) := by decide +kernel
theorem dX11_count_45 : decode cX11_count 45 = .ok (.ireturn, 1) := by decide +kernel
theorem dX11_count_46 : decode cX11_count 46 = .ok (.aload_n 0, 1) := by decide +kernel
theorem dX11_count_47 : decode cX11_count 47 = .ok (.getfield 247, 3) := by decide +kernel
theorem dX11_count_50 : decode cX11_count 50 = .ok (.ireturn, 1) := by decide +kernel
theorem dX11_count_51 : decode cX11_count 51 = .ok (.aload_n 0, 1) := by decide +kernel
theorem dX11_count_52 : decode cX11_count 52 = .ok (.getfield 253, 3) := by decide +kernel
theorem dX11_count_55 : decode cX11_count 55 = .ok (.ifCond .eq 10, 3) := by decide +kernel
theorem dX11_count_58 : decode cX11_count 58 = .ok (.aload_n 0, 1) := by decide +kernel
theorem dX11_count_59 : decode cX11_count 59 = .ok (.getfield 449, 3) := by decide +kernel
theorem dX11_count_62 : decode cX11_count 62 = .ok (.goto 4, 3) := by decide +kernel
theorem dX11_count_65 : decode cX11_count 65 = .ok (.iconst 0, 1) := by decide +kernel
theorem dX11_count_66 : decode cX11_count 66 = .ok (.ireturn, 1) := by decide +kernel
theorem dX11_count_67 : decode cX11_count 67 = .ok (.aload_n 0, 1) := by decide +kernel
theorem dX11_count_68 : decode cX11_count 68 = .ok (.getfield 155, 3) := by decide +kernel
theorem dX11_count_71 : decode cX11_count 71 = .ok (.ireturn, 1) := by decide +kernel
theorem dX11_count_72 : decode cX11_count 72 = .ok (.iconst (-1), 1) := by decide +kernel
theorem dX11_count_73 : decode cX11_count 73 = .ok (.ireturn, 1) := by decide +kernel
noncomputable def f_X11_count (a0 : Nat) (l1 : Int32) (μ : Mm) : Option Int32 :=
  if (mm_K μ a0).1 = 12 then if l1 = 0 then (gf_I 12 30 a0 μ).bind fun x37 => some x37 else if l1 = 1 then (gf_I 12 46 a0 μ).bind fun x42 => some x42 else if l1 = 2 then (gf_I 12 47 a0 μ).bind fun x47 => some x47 else if l1 = 3 then (gf_I 12 64 a0 μ).bind fun x52 => if x52 = 0 then some (0 : Int32) else (gf_I 12 66 a0 μ).bind fun x59 => some x59 else if l1 = 4 then (gf_I 12 1 a0 μ).bind fun x68 => some x68 else some (-1 : Int32) else none
abbrev Rn_X11_count (G : Gv) (Q : Option Value → Mm → Prop) (pc : Nat) (lv : List (Nat × Value)) (st : List Value) (μ : Mm) : Prop := Rn G RX11 cX11_count 2 (some .int) "count" (rmd 0 0 0) (Zm G 0 0 Q) 0 0 pc lv st μ
set_option maxRecDepth 100000 in
set_option maxHeartbeats 4000000 in
theorem m_X11_count {G : Gv} (a0 : Nat) (l1 : Int32) (μ : Mm) {r : Int32} (hx : f_X11_count a0 l1 μ = some r) : Mt G yX11_count cX11_count 2 (some .int) 0 0 0 [.ref a0, .int l1] μ (fun v μ' => v = some (.int r) ∧ μ' = μ) := by
  refine Mt.of (by decide) (Nat.le_of_ble_eq_true rfl) ?_
  show Rn_X11_count G (fun v μ' => v = some (.int r) ∧ μ' = μ) 0 [(0, .ref a0), (1, .int l1)] [] μ
  obtain ⟨_, h⟩ := Sat_ifp (show Sat (f_X11_count a0 l1 μ) (fun x => x = r) from ⟨_, hx, rfl⟩)
  refine r_iload_n dX11_count_0 1 rfl ?_
  by_cases c1_0 : l1 = 0
  · have h := Sat_pos c1_0 h
    refine r_tabIn c1_0 35 36 dX11_count_1 (by decide) (by decide) (by decide) (by decide) ?_
    refine r_aload_n dX11_count_36 0 rfl ?_
    obtain ⟨x37, e37, h⟩ := Sat_bind h
    refine r_getI fk_X11_306 rfl e37 dX11_count_37 ?_
    exact r_ireturn rfl (by rw [← Sat_eq h]; exact ⟨rfl, rfl⟩) dX11_count_40
  have h := Sat_neg c1_0 h
  by_cases c1_1 : l1 = 1
  · have h := Sat_pos c1_1 h
    refine r_tabIn c1_1 40 41 dX11_count_1 (by decide) (by decide) (by decide) (by decide) ?_
    refine r_aload_n dX11_count_41 0 rfl ?_
    obtain ⟨x42, e42, h⟩ := Sat_bind h
    refine r_getI fk_X11_244 rfl e42 dX11_count_42 ?_
    exact r_ireturn rfl (by rw [← Sat_eq h]; exact ⟨rfl, rfl⟩) dX11_count_45
  have h := Sat_neg c1_1 h
  by_cases c1_2 : l1 = 2
  · have h := Sat_pos c1_2 h
    refine r_tabIn c1_2 45 46 dX11_count_1 (by decide) (by decide) (by decide) (by decide) ?_
    refine r_aload_n dX11_count_46 0 rfl ?_
    obtain ⟨x47, e47, h⟩ := Sat_bind h
    refine r_getI fk_X11_247 rfl e47 dX11_count_47 ?_
    exact r_ireturn rfl (by rw [← Sat_eq h]; exact ⟨rfl, rfl⟩) dX11_count_50
  have h := Sat_neg c1_2 h
  by_cases c1_3 : l1 = 3
  · have h := Sat_pos c1_3 h
    refine r_tabIn c1_3 50 51 dX11_count_1 (by decide) (by decide) (by decide) (by decide) ?_
    refine r_aload_n dX11_count_51 0 rfl ?_
    obtain ⟨x52, e52, h⟩ := Sat_bind h
    refine r_getI fk_X11_253 rfl e52 dX11_count_52 ?_
    refine r_if_eq 65 dX11_count_55 (by decide) (fun c55 => ?_) (fun c55 => ?_)
    · have h := Sat_pos c55 h
      refine r_iconst (v := 0) dX11_count_65 (by decide) ?_
      exact r_ireturn rfl (by rw [← Sat_eq h]; exact ⟨rfl, rfl⟩) dX11_count_66
    · have h := Sat_neg c55 h
      refine r_aload_n dX11_count_58 0 rfl ?_
      obtain ⟨x59, e59, h⟩ := Sat_bind h
      refine r_getI fk_X11_449 rfl e59 dX11_count_59 ?_
      refine r_goto 66 dX11_count_62 (by decide) ?_
      exact r_ireturn rfl (by rw [← Sat_eq h]; exact ⟨rfl, rfl⟩) dX11_count_66
  have h := Sat_neg c1_3 h
  by_cases c1_4 : l1 = 4
  · have h := Sat_pos c1_4 h
    refine r_tabIn c1_4 66 67 dX11_count_1 (by decide) (by decide) (by decide) (by decide) ?_
    refine r_aload_n dX11_count_67 0 rfl ?_
    obtain ⟨x68, e68, h⟩ := Sat_bind h
    refine r_getI fk_X11_155 rfl e68 dX11_count_68 ?_
    exact r_ireturn rfl (by rw [← Sat_eq h]; exact ⟨rfl, rfl⟩) dX11_count_71
  have h := Sat_neg c1_4 h
  refine r_tabOut 72 dX11_count_1 (tab_out5 c1_0 c1_1 c1_2 c1_3 c1_4) (by decide) ?_
  refine r_iconst (v := -1) dX11_count_72 (by decide) ?_
  exact r_ireturn rfl (by rw [← Sat_eq h]; exact ⟨rfl, rfl⟩) dX11_count_73
