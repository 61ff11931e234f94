theorem dX0_init_0 : decode cX0_init 0 = .ok (.aload_n 0, 1) := by decide +kernel
theorem dX0_init_1 : decode cX0_init 1 = .ok (.invokespecial 3, 3) := by decide +kernel
theorem dX0_init_4 : decode cX0_init 4 = .ok (.aload_n 0, 1) := by decide +kernel
theorem dX0_init_5 : decode cX0_init 5 = .ok (.bipush 16, 2) := by decide +kernel
theorem dX0_init_7 : decode cX0_init 7 = .ok (.newarray .int, 2) := by decide +kernel
theorem dX0_init_9 : decode cX0_init 9 = .ok (.putfield 11, 3) := by decide +kernel
theorem dX0_init_12 : decode cX0_init 12 = .ok (.aload_n 0, 1) := by decide +kernel
theorem dX0_init_13 : decode cX0_init 13 = .ok (.bipush 16, 2) := by decide +kernel
theorem dX0_init_15 : decode cX0_init 15 = .ok (.newarray .int, 2) := by decide +kernel
theorem dX0_init_17 : decode cX0_init 17 = .ok (.putfield 15, 3) := by decide +kernel
theorem dX0_init_20 : decode cX0_init 20 = .ok (.aload_n 0, 1) := by decide +kernel
theorem dX0_init_21 : decode cX0_init 21 = .ok (.bipush 16, 2) := by decide +kernel
theorem dX0_init_23 : decode cX0_init 23 = .ok (.newarray .int, 2) := by decide +kernel
theorem dX0_init_25 : decode cX0_init 25 = .ok (.putfield 18, 3) := by decide +kernel
theorem dX0_init_28 : decode cX0_init 28 = .ok (.aload_n 0, 1) := by decide +kernel
theorem dX0_init_29 : decode cX0_init 29 = .ok (.bipush 16, 2) := by decide +kernel
theorem dX0_init_31 : decode cX0_init 31 = .ok (.newarray .int, 2) := by decide +kernel
theorem dX0_init_33 : decode cX0_init 33 = .ok (.putfield 21, 3) := by decide +kernel
theorem dX0_init_36 : decode cX0_init 36 = .ok (.aload_n 0, 1) := by decide +kernel
theorem dX0_init_37 : decode cX0_init 37 = .ok (.bipush 16, 2) := by decide +kernel
theorem dX0_init_39 : decode cX0_init 39 = .ok (.newarray .int, 2) := by decide +kernel
theorem dX0_init_41 : decode cX0_init 41 = .ok (.putfield 24, 3) := by decide +kernel
theorem dX0_init_44 : decode cX0_init 44 = .ok (.aload_n 0, 1) := by decide +kernel
theorem dX0_init_45 : decode cX0_init 45 = .ok (.bipush 20, 2) := by decide +kernel
theorem dX0_init_47 : decode cX0_init 47 = .ok (.newarray .int, 2) := by decide +kernel
theorem dX0_init_49 : decode cX0_init 49 = .ok (.putfield 27, 3) := by decide +kernel
theorem dX0_init_52 : decode cX0_init 52 = .ok (.aload_n 0, 1) := by decide +kernel
theorem dX0_init_53 : decode cX0_init 53 = .ok (.bipush 20, 2) := by decide +kernel
theorem dX0_init_55 : decode cX0_init 55 = .ok (.newarray .int, 2) := by decide +kernel
theorem dX0_init_57 : decode cX0_init 57 = .ok (.putfield 30, 3) := by decide +kernel
theorem dX0_init_60 : decode cX0_init 60 = .ok (.aload_n 0, 1) := by decide +kernel
theorem dX0_init_61 : decode cX0_init 61 = .ok (.bipush 20, 2) := by decide +kernel
theorem dX0_init_63 : decode cX0_init 63 = .ok (.newarray .int, 2) := by decide +kernel
theorem dX0_init_65 : decode cX0_init 65 = .ok (.putfield 33, 3) := by decide +kernel
theorem dX0_init_68 : decode cX0_init 68 = .ok (.return_, 1) := by decide +kernel
noncomputable def f_X0_init (a0 : Nat) (μ : Mm) : Option Mm :=
  if (mm_K μ a0).1 = 1 then (nw_A 20 (16 : Int32) μ).bind fun n7 => (pf_P 1 0 a0 n7.1 n7.2).bind fun μ9 => (nw_A 20 (16 : Int32) μ9).bind fun n15 => (pf_P 1 1 a0 n15.1 n15.2).bind fun μ17 => (nw_A 20 (16 : Int32) μ17).bind fun n23 => (pf_P 1 2 a0 n23.1 n23.2).bind fun μ25 => (nw_A 20 (16 : Int32) μ25).bind fun n31 => (pf_P 1 3 a0 n31.1 n31.2).bind fun μ33 => (nw_A 20 (16 : Int32) μ33).bind fun n39 => (pf_P 1 4 a0 n39.1 n39.2).bind fun μ41 => (nw_A 20 (20 : Int32) μ41).bind fun n47 => (pf_P 1 5 a0 n47.1 n47.2).bind fun μ49 => (nw_A 20 (20 : Int32) μ49).bind fun n55 => (pf_P 1 6 a0 n55.1 n55.2).bind fun μ57 => (nw_A 20 (20 : Int32) μ57).bind fun n63 => (pf_P 1 7 a0 n63.1 n63.2).bind fun μ65 => some μ65 else none
abbrev Rn_X0_init (G : Gv) (Q : Option Value → Mm → Prop) (mc ms c s : Nat) (pc : Nat) (lv : List (Nat × Value)) (st : List Value) (μ : Mm) : Prop := Rn G RX0 cX0_init 1 none "<init>" (rmd 1 mc ms) (Zm G mc ms Q) c s pc lv st μ
theorem t_X0_init {a0 : Nat} {μ : Mm} {x : Mm} (h : f_X0_init a0 μ = some x) : Gr μ ((fun (q : Mm) => q) x) := by
  have hk : Gr μ μ := Gr.rfl
  obtain ⟨_, h⟩ := ite_p h
  obtain ⟨n7, e7, h⟩ := bd h
  have hk := Gr.trans hk (gr_A (by decide) e7)
  obtain ⟨μ9, e9, h⟩ := bd h
  have hk := Gr.after (Gr.of (kq_pfP e9)) hk
  obtain ⟨n15, e15, h⟩ := bd h
  have hk := Gr.trans hk (gr_A (by decide) e15)
  obtain ⟨μ17, e17, h⟩ := bd h
  have hk := Gr.after (Gr.of (kq_pfP e17)) hk
  obtain ⟨n23, e23, h⟩ := bd h
  have hk := Gr.trans hk (gr_A (by decide) e23)
  obtain ⟨μ25, e25, h⟩ := bd h
  have hk := Gr.after (Gr.of (kq_pfP e25)) hk
  obtain ⟨n31, e31, h⟩ := bd h
  have hk := Gr.trans hk (gr_A (by decide) e31)
  obtain ⟨μ33, e33, h⟩ := bd h
  have hk := Gr.after (Gr.of (kq_pfP e33)) hk
  obtain ⟨n39, e39, h⟩ := bd h
  have hk := Gr.trans hk (gr_A (by decide) e39)
  obtain ⟨μ41, e41, h⟩ := bd h
  have hk := Gr.after (Gr.of (kq_pfP e41)) hk
  obtain ⟨n47, e47, h⟩ := bd h
  have hk := Gr.trans hk (gr_A (by decide) e47)
  obtain ⟨μ49, e49, h⟩ := bd h
  have hk := Gr.after (Gr.of (kq_pfP e49)) hk
  obtain ⟨n55, e55, h⟩ := bd h
  have hk := Gr.trans hk (gr_A (by decide) e55)
  obtain ⟨μ57, e57, h⟩ := bd h
  have hk := Gr.after (Gr.of (kq_pfP e57)) hk
  obtain ⟨n63, e63, h⟩ := bd h
  have hk := Gr.trans hk (gr_A (by decide) e63)
  obtain ⟨μ65, e65, h⟩ := bd h
  have hk := Gr.after (Gr.of (kq_pfP e65)) hk
  have h := Option.some.inj h
  subst h
  exact hk
set_option maxRecDepth 100000 in
set_option maxHeartbeats 4000000 in
theorem m_X0_init {G : Gv} (a0 : Nat) (μ : Mm) {r : Mm} (hx : f_X0_init a0 μ = some r) (mc ms : Nat) (hn : mm_N r ≤ mm_N μ + mc) (hz : mm_Z r ≤ mm_Z μ + ms) : Mt G yX0_init cX0_init 1 none 1 mc ms [.ref a0] μ (fun v μ' => v = none ∧ μ' = r) := by
  have hN : Nz μ μ 0 0 := ⟨rfl, rfl⟩
  have hC : 0 ≤ mc ∧ 0 ≤ ms := ⟨Nat.zero_le _, Nat.zero_le _⟩
  have hB : ∀ x : Mm, x = r → mm_N ((fun (q : Mm) => q) x) ≤ mm_N μ + mc ∧ mm_Z ((fun (q : Mm) => q) x) ≤ mm_Z μ + ms := fun x e => by subst e; exact ⟨hn, hz⟩
  refine Mt.of (by decide) (Nat.le_of_ble_eq_true rfl) ?_
  show Rn_X0_init G (fun v μ' => v = none ∧ μ' = r) mc ms 0 0 0 [(0, .ref a0)] [] μ
  obtain ⟨_, h⟩ := Sat_ifp (show Sat (f_X0_init a0 μ) (fun x => x = r) from ⟨_, hx, rfl⟩)
  refine r_aload_n dX0_init_0 0 rfl ?_
  refine r_objInit lo_X0_3 lo_in lo_co (Nat.le_of_ble_eq_true rfl) ⟨Nat.le_of_ble_eq_true rfl, Nat.le_of_ble_eq_true rfl⟩ dX0_init_1 ?_
  refine r_aload_n dX0_init_4 0 rfl ?_
  refine r_bipush (v := 16) dX0_init_5 (by decide) ?_
  obtain ⟨n7, e7, h⟩ := Sat_bind h
  have hN := nz_A (by decide) e7 hN
  have hC := bud_of hN (by
    obtain ⟨x, h, hx⟩ := id h
    have hk : Gr (n7.2) (n7.2) := Gr.rfl
    refine bud_le (?_ : Gr _ ((fun (q : Mm) => q) x)) (hB x hx)
    obtain ⟨μ9, e9, h⟩ := bd h
    have hk := Gr.after (Gr.of (kq_pfP e9)) hk
    obtain ⟨n15, e15, h⟩ := bd h
    have hk := Gr.trans hk (gr_A (by decide) e15)
    obtain ⟨μ17, e17, h⟩ := bd h
    have hk := Gr.after (Gr.of (kq_pfP e17)) hk
    obtain ⟨n23, e23, h⟩ := bd h
    have hk := Gr.trans hk (gr_A (by decide) e23)
    obtain ⟨μ25, e25, h⟩ := bd h
    have hk := Gr.after (Gr.of (kq_pfP e25)) hk
    obtain ⟨n31, e31, h⟩ := bd h
    have hk := Gr.trans hk (gr_A (by decide) e31)
    obtain ⟨μ33, e33, h⟩ := bd h
    have hk := Gr.after (Gr.of (kq_pfP e33)) hk
    obtain ⟨n39, e39, h⟩ := bd h
    have hk := Gr.trans hk (gr_A (by decide) e39)
    obtain ⟨μ41, e41, h⟩ := bd h
    have hk := Gr.after (Gr.of (kq_pfP e41)) hk
    obtain ⟨n47, e47, h⟩ := bd h
    have hk := Gr.trans hk (gr_A (by decide) e47)
    obtain ⟨μ49, e49, h⟩ := bd h
    have hk := Gr.after (Gr.of (kq_pfP e49)) hk
    obtain ⟨n55, e55, h⟩ := bd h
    have hk := Gr.trans hk (gr_A (by decide) e55)
    obtain ⟨μ57, e57, h⟩ := bd h
    have hk := Gr.after (Gr.of (kq_pfP e57)) hk
    obtain ⟨n63, e63, h⟩ := bd h
    have hk := Gr.trans hk (gr_A (by decide) e63)
    obtain ⟨μ65, e65, h⟩ := bd h
    have hk := Gr.after (Gr.of (kq_pfP e65)) hk
    have h := Option.some.inj h
    subst h
    exact hk)
  refine r_newarray (t := 20) (by decide) rfl e7 ka_20 hC dX0_init_7 ?_
  obtain ⟨μ9, e9, h⟩ := Sat_bind h
  refine r_putP fk_X0_11 (Or.inr ⟨rfl, rfl, rfl, fl_X0_11⟩) rfl e9 dX0_init_9 ?_
  have hN := nz_tl (kq_pfP e9) hN
  refine r_aload_n dX0_init_12 0 rfl ?_
  refine r_bipush (v := 16) dX0_init_13 (by decide) ?_
  obtain ⟨n15, e15, h⟩ := Sat_bind h
  have hN := nz_A (by decide) e15 hN
  have hC := bud_of hN (by
    obtain ⟨x, h, hx⟩ := id h
    have hk : Gr (n15.2) (n15.2) := Gr.rfl
    refine bud_le (?_ : Gr _ ((fun (q : Mm) => q) x)) (hB x hx)
    obtain ⟨μ17, e17, h⟩ := bd h
    have hk := Gr.after (Gr.of (kq_pfP e17)) hk
    obtain ⟨n23, e23, h⟩ := bd h
    have hk := Gr.trans hk (gr_A (by decide) e23)
    obtain ⟨μ25, e25, h⟩ := bd h
    have hk := Gr.after (Gr.of (kq_pfP e25)) hk
    obtain ⟨n31, e31, h⟩ := bd h
    have hk := Gr.trans hk (gr_A (by decide) e31)
    obtain ⟨μ33, e33, h⟩ := bd h
    have hk := Gr.after (Gr.of (kq_pfP e33)) hk
    obtain ⟨n39, e39, h⟩ := bd h
    have hk := Gr.trans hk (gr_A (by decide) e39)
    obtain ⟨μ41, e41, h⟩ := bd h
    have hk := Gr.after (Gr.of (kq_pfP e41)) hk
    obtain ⟨n47, e47, h⟩ := bd h
    have hk := Gr.trans hk (gr_A (by decide) e47)
    obtain ⟨μ49, e49, h⟩ := bd h
    have hk := Gr.after (Gr.of (kq_pfP e49)) hk
    obtain ⟨n55, e55, h⟩ := bd h
    have hk := Gr.trans hk (gr_A (by decide) e55)
    obtain ⟨μ57, e57, h⟩ := bd h
    have hk := Gr.after (Gr.of (kq_pfP e57)) hk
    obtain ⟨n63, e63, h⟩ := bd h
    have hk := Gr.trans hk (gr_A (by decide) e63)
    obtain ⟨μ65, e65, h⟩ := bd h
    have hk := Gr.after (Gr.of (kq_pfP e65)) hk
    have h := Option.some.inj h
    subst h
    exact hk)
  refine r_newarray (t := 20) (by decide) rfl e15 ka_20 hC dX0_init_15 ?_
  obtain ⟨μ17, e17, h⟩ := Sat_bind h
  refine r_putP fk_X0_15 (Or.inr ⟨rfl, rfl, rfl, fl_X0_15⟩) rfl e17 dX0_init_17 ?_
  have hN := nz_tl (kq_pfP e17) hN
  refine r_aload_n dX0_init_20 0 rfl ?_
  refine r_bipush (v := 16) dX0_init_21 (by decide) ?_
  obtain ⟨n23, e23, h⟩ := Sat_bind h
  have hN := nz_A (by decide) e23 hN
  have hC := bud_of hN (by
    obtain ⟨x, h, hx⟩ := id h
    have hk : Gr (n23.2) (n23.2) := Gr.rfl
    refine bud_le (?_ : Gr _ ((fun (q : Mm) => q) x)) (hB x hx)
    obtain ⟨μ25, e25, h⟩ := bd h
    have hk := Gr.after (Gr.of (kq_pfP e25)) hk
    obtain ⟨n31, e31, h⟩ := bd h
    have hk := Gr.trans hk (gr_A (by decide) e31)
    obtain ⟨μ33, e33, h⟩ := bd h
    have hk := Gr.after (Gr.of (kq_pfP e33)) hk
    obtain ⟨n39, e39, h⟩ := bd h
    have hk := Gr.trans hk (gr_A (by decide) e39)
    obtain ⟨μ41, e41, h⟩ := bd h
    have hk := Gr.after (Gr.of (kq_pfP e41)) hk
    obtain ⟨n47, e47, h⟩ := bd h
    have hk := Gr.trans hk (gr_A (by decide) e47)
    obtain ⟨μ49, e49, h⟩ := bd h
    have hk := Gr.after (Gr.of (kq_pfP e49)) hk
    obtain ⟨n55, e55, h⟩ := bd h
    have hk := Gr.trans hk (gr_A (by decide) e55)
    obtain ⟨μ57, e57, h⟩ := bd h
    have hk := Gr.after (Gr.of (kq_pfP e57)) hk
    obtain ⟨n63, e63, h⟩ := bd h
    have hk := Gr.trans hk (gr_A (by decide) e63)
    obtain ⟨μ65, e65, h⟩ := bd h
    have hk := Gr.after (Gr.of (kq_pfP e65)) hk
    have h := Option.some.inj h
    subst h
    exact hk)
  refine r_newarray (t := 20) (by decide) rfl e23 ka_20 hC dX0_init_23 ?_
  obtain ⟨μ25, e25, h⟩ := Sat_bind h
  refine r_putP fk_X0_18 (Or.inr ⟨rfl, rfl, rfl, fl_X0_18⟩) rfl e25 dX0_init_25 ?_
  have hN := nz_tl (kq_pfP e25) hN
  refine r_aload_n dX0_init_28 0 rfl ?_
  refine r_bipush (v := 16) dX0_init_29 (by decide) ?_
  obtain ⟨n31, e31, h⟩ := Sat_bind h
  have hN := nz_A (by decide) e31 hN
  have hC := bud_of hN (by
    obtain ⟨x, h, hx⟩ := id h
    have hk : Gr (n31.2) (n31.2) := Gr.rfl
    refine bud_le (?_ : Gr _ ((fun (q : Mm) => q) x)) (hB x hx)
    obtain ⟨μ33, e33, h⟩ := bd h
    have hk := Gr.after (Gr.of (kq_pfP e33)) hk
    obtain ⟨n39, e39, h⟩ := bd h
    have hk := Gr.trans hk (gr_A (by decide) e39)
    obtain ⟨μ41, e41, h⟩ := bd h
    have hk := Gr.after (Gr.of (kq_pfP e41)) hk
    obtain ⟨n47, e47, h⟩ := bd h
    have hk := Gr.trans hk (gr_A (by decide) e47)
    obtain ⟨μ49, e49, h⟩ := bd h
    have hk := Gr.after (Gr.of (kq_pfP e49)) hk
    obtain ⟨n55, e55, h⟩ := bd h
    have hk := Gr.trans hk (gr_A (by decide) e55)
    obtain ⟨μ57, e57, h⟩ := bd h
    have hk := Gr.after (Gr.of (kq_pfP e57)) hk
    obtain ⟨n63, e63, h⟩ := bd h
    have hk := Gr.trans hk (gr_A (by decide) e63)
    obtain ⟨μ65, e65, h⟩ := bd h
    have hk := Gr.after (Gr.of (kq_pfP e65)) hk
    have h := Option.some.inj h
    subst h
    exact hk)
  refine r_newarray (t := 20) (by decide) rfl e31 ka_20 hC dX0_init_31 ?_
  obtain ⟨μ33, e33, h⟩ := Sat_bind h
  refine r_putP fk_X0_21 (Or.inr ⟨rfl, rfl, rfl, fl_X0_21⟩) rfl e33 dX0_init_33 ?_
  have hN := nz_tl (kq_pfP e33) hN
  refine r_aload_n dX0_init_36 0 rfl ?_
  refine r_bipush (v := 16) dX0_init_37 (by decide) ?_
  obtain ⟨n39, e39, h⟩ := Sat_bind h
  have hN := nz_A (by decide) e39 hN
  have hC := bud_of hN (by
    obtain ⟨x, h, hx⟩ := id h
    have hk : Gr (n39.2) (n39.2) := Gr.rfl
    refine bud_le (?_ : Gr _ ((fun (q : Mm) => q) x)) (hB x hx)
    obtain ⟨μ41, e41, h⟩ := bd h
    have hk := Gr.after (Gr.of (kq_pfP e41)) hk
    obtain ⟨n47, e47, h⟩ := bd h
    have hk := Gr.trans hk (gr_A (by decide) e47)
    obtain ⟨μ49, e49, h⟩ := bd h
    have hk := Gr.after (Gr.of (kq_pfP e49)) hk
    obtain ⟨n55, e55, h⟩ := bd h
    have hk := Gr.trans hk (gr_A (by decide) e55)
    obtain ⟨μ57, e57, h⟩ := bd h
    have hk := Gr.after (Gr.of (kq_pfP e57)) hk
    obtain ⟨n63, e63, h⟩ := bd h
    have hk := Gr.trans hk (gr_A (by decide) e63)
    obtain ⟨μ65, e65, h⟩ := bd h
    have hk := Gr.after (Gr.of (kq_pfP e65)) hk
    have h := Option.some.inj h
    subst h
    exact hk)
  refine r_newarray (t := 20) (by decide) rfl e39 ka_20 hC dX0_init_39 ?_
  obtain ⟨μ41, e41, h⟩ := Sat_bind h
  refine r_putP fk_X0_24 (Or.inr ⟨rfl, rfl, rfl, fl_X0_24⟩) rfl e41 dX0_init_41 ?_
  have hN := nz_tl (kq_pfP e41) hN
  refine r_aload_n dX0_init_44 0 rfl ?_
  refine r_bipush (v := 20) dX0_init_45 (by decide) ?_
  obtain ⟨n47, e47, h⟩ := Sat_bind h
  have hN := nz_A (by decide) e47 hN
  have hC := bud_of hN (by
    obtain ⟨x, h, hx⟩ := id h
    have hk : Gr (n47.2) (n47.2) := Gr.rfl
    refine bud_le (?_ : Gr _ ((fun (q : Mm) => q) x)) (hB x hx)
    obtain ⟨μ49, e49, h⟩ := bd h
    have hk := Gr.after (Gr.of (kq_pfP e49)) hk
    obtain ⟨n55, e55, h⟩ := bd h
    have hk := Gr.trans hk (gr_A (by decide) e55)
    obtain ⟨μ57, e57, h⟩ := bd h
    have hk := Gr.after (Gr.of (kq_pfP e57)) hk
    obtain ⟨n63, e63, h⟩ := bd h
    have hk := Gr.trans hk (gr_A (by decide) e63)
    obtain ⟨μ65, e65, h⟩ := bd h
    have hk := Gr.after (Gr.of (kq_pfP e65)) hk
    have h := Option.some.inj h
    subst h
    exact hk)
  refine r_newarray (t := 20) (by decide) rfl e47 ka_20 hC dX0_init_47 ?_
  obtain ⟨μ49, e49, h⟩ := Sat_bind h
  refine r_putP fk_X0_27 (Or.inr ⟨rfl, rfl, rfl, fl_X0_27⟩) rfl e49 dX0_init_49 ?_
  have hN := nz_tl (kq_pfP e49) hN
  refine r_aload_n dX0_init_52 0 rfl ?_
  refine r_bipush (v := 20) dX0_init_53 (by decide) ?_
  obtain ⟨n55, e55, h⟩ := Sat_bind h
  have hN := nz_A (by decide) e55 hN
  have hC := bud_of hN (by
    obtain ⟨x, h, hx⟩ := id h
    have hk : Gr (n55.2) (n55.2) := Gr.rfl
    refine bud_le (?_ : Gr _ ((fun (q : Mm) => q) x)) (hB x hx)
    obtain ⟨μ57, e57, h⟩ := bd h
    have hk := Gr.after (Gr.of (kq_pfP e57)) hk
    obtain ⟨n63, e63, h⟩ := bd h
    have hk := Gr.trans hk (gr_A (by decide) e63)
    obtain ⟨μ65, e65, h⟩ := bd h
    have hk := Gr.after (Gr.of (kq_pfP e65)) hk
    have h := Option.some.inj h
    subst h
    exact hk)
  refine r_newarray (t := 20) (by decide) rfl e55 ka_20 hC dX0_init_55 ?_
  obtain ⟨μ57, e57, h⟩ := Sat_bind h
  refine r_putP fk_X0_30 (Or.inr ⟨rfl, rfl, rfl, fl_X0_30⟩) rfl e57 dX0_init_57 ?_
  have hN := nz_tl (kq_pfP e57) hN
  refine r_aload_n dX0_init_60 0 rfl ?_
  refine r_bipush (v := 20) dX0_init_61 (by decide) ?_
  obtain ⟨n63, e63, h⟩ := Sat_bind h
  have hN := nz_A (by decide) e63 hN
  have hC := bud_of hN (by
    obtain ⟨x, h, hx⟩ := id h
    have hk : Gr (n63.2) (n63.2) := Gr.rfl
    refine bud_le (?_ : Gr _ ((fun (q : Mm) => q) x)) (hB x hx)
    obtain ⟨μ65, e65, h⟩ := bd h
    have hk := Gr.after (Gr.of (kq_pfP e65)) hk
    have h := Option.some.inj h
    subst h
    exact hk)
  refine r_newarray (t := 20) (by decide) rfl e63 ka_20 hC dX0_init_63 ?_
  obtain ⟨μ65, e65, h⟩ := Sat_bind h
  refine r_putP fk_X0_33 (Or.inr ⟨rfl, rfl, rfl, fl_X0_33⟩) rfl e65 dX0_init_65 ?_
  have hN := nz_tl (kq_pfP e65) hN
  refine r_widen hC.1 hC.2 ?_
  exact r_vreturn rfl (by rw [← Sat_eq h]; exact ⟨rfl, rfl⟩) dX0_init_68
theorem dX1_listTurnings_0 : decode cX1_listTurnings 0 = .ok (.aload_n 0, 1) := by decide +kernel
theorem dX1_listTurnings_1 : decode cX1_listTurnings 1 = .ok (.getfield 31, 3) := by decide +kernel
theorem dX1_listTurnings_4 : decode cX1_listTurnings 4 = .ok (.getfield 63, 3) := by decide +kernel
theorem dX1_listTurnings_7 : decode cX1_listTurnings 7 = .ok (.invokevirtual 69, 3) := by decide +kernel
theorem dX1_listTurnings_10 : decode cX1_listTurnings 10 = .ok (.istore_n 1, 1) := by decide +kernel
theorem dX1_listTurnings_11 : decode cX1_listTurnings 11 = .ok (.aload_n 0, 1) := by decide +kernel
theorem dX1_listTurnings_12 : decode cX1_listTurnings 12 = .ok (.getfield 43, 3) := by decide +kernel
theorem dX1_listTurnings_15 : decode cX1_listTurnings 15 = .ok (.iload_n 1, 1) := by decide +kernel
theorem dX1_listTurnings_16 : decode cX1_listTurnings 16 = .ok (.if_icmp .ne 4, 3) := by decide +kernel
theorem dX1_listTurnings_19 : decode cX1_listTurnings 19 = .ok (.return_, 1) := by decide +kernel
theorem dX1_listTurnings_20 : decode cX1_listTurnings 20 = .ok (.aload_n 0, 1) := by decide +kernel
theorem dX1_listTurnings_21 : decode cX1_listTurnings 21 = .ok (.getfield 25, 3) := by decide +kernel
theorem dX1_listTurnings_24 : decode cX1_listTurnings 24 = .ok (.arraylength, 1) := by decide +kernel
theorem dX1_listTurnings_25 : decode cX1_listTurnings 25 = .ok (.iload_n 1, 1) := by decide +kernel
theorem dX1_listTurnings_26 : decode cX1_listTurnings 26 = .ok (.if_icmp .ge 27, 3) := by decide +kernel
theorem dX1_listTurnings_29 : decode cX1_listTurnings 29 = .ok (.aload_n 0, 1) := by decide +kernel
theorem dX1_listTurnings_30 : decode cX1_listTurnings 30 = .ok (.getfield 25, 3) := by decide +kernel
theorem dX1_listTurnings_33 : decode cX1_listTurnings 33 = .ok (.arraylength, 1) := by decide +kernel
theorem dX1_listTurnings_34 : decode cX1_listTurnings 34 = .ok (.iload_n 1, 1) := by decide +kernel
theorem dX1_listTurnings_35 : decode cX1_listTurnings 35 = .ok (.invokestatic 75, 3) := by decide +kernel
theorem dX1_listTurnings_38 : decode cX1_listTurnings 38 = .ok (.istore_n 2, 1) := by decide +kernel
theorem dX1_listTurnings_39 : decode cX1_listTurnings 39 = .ok (.aload_n 0, 1) := by decide +kernel
theorem dX1_listTurnings_40 : decode cX1_listTurnings 40 = .ok (.iload_n 2, 1) := by decide +kernel
theorem dX1_listTurnings_41 : decode cX1_listTurnings 41 = .ok (.newarray .int, 2) := by decide +kernel
theorem dX1_listTurnings_43 : decode cX1_listTurnings 43 = .ok (.putfield 25, 3) := by decide +kernel
theorem dX1_listTurnings_46 : decode cX1_listTurnings 46 = .ok (.aload_n 0, 1) := by decide +kernel
theorem dX1_listTurnings_47 : decode cX1_listTurnings 47 = .ok (.iload_n 2, 1) := by decide +kernel
theorem dX1_listTurnings_48 : decode cX1_listTurnings 48 = .ok (.newarray .int, 2) := by decide +kernel
theorem dX1_listTurnings_50 : decode cX1_listTurnings 50 = .ok (.putfield 28, 3) := by decide +kernel
theorem dX1_listTurnings_53 : decode cX1_listTurnings 53 = .ok (.aload_n 0, 1) := by decide +kernel
theorem dX1_listTurnings_54 : decode cX1_listTurnings 54 = .ok (.getfield 31, 3) := by decide +kernel
theorem dX1_listTurnings_57 : decode cX1_listTurnings 57 = .ok (.getfield 63, 3) := by decide +kernel
theorem dX1_listTurnings_60 : decode cX1_listTurnings 60 = .ok (.aload_n 0, 1) := by decide +kernel
theorem dX1_listTurnings_61 : decode cX1_listTurnings 61 = .ok (.getfield 25, 3) := by decide +kernel
theorem dX1_listTurnings_64 : decode cX1_listTurnings 64 = .ok (.invokevirtual 78, 3) := by decide +kernel
theorem dX1_listTurnings_67 : decode cX1_listTurnings 67 = .ok (.aload_n 0, 1) := by decide +kernel
theorem dX1_listTurnings_68 : decode cX1_listTurnings 68 = .ok (.iload_n 1, 1) := by decide +kernel
theorem dX1_listTurnings_69 : decode cX1_listTurnings 69 = .ok (.putfield 43, 3) := by decide +kernel
theorem dX1_listTurnings_72 : decode cX1_listTurnings 72 = .ok (.return_, 1) := by decide +kernel
noncomputable def f_X1_listTurnings_J53 (a0 : Nat) (l1 : Int32) (μ : Mm) : Option Mm :=
  (gf_P 2 5 a0 μ).bind fun x54 => (gf_P 8 8 x54 μ).bind fun x57 => (gf_P 2 6 a0 μ).bind fun x61 => (f_X9_fillRows x57 x61 μ).bind fun x64 => (pf_I 2 9 a0 l1 x64).bind fun μ69 => some μ69
noncomputable def f_X1_listTurnings (a0 : Nat) (μ : Mm) : Option Mm :=
  if (mm_K μ a0).1 = 2 then (gf_P 2 5 a0 μ).bind fun x1 => (gf_P 8 8 x1 μ).bind fun x4 => (f_X9_howMany x4 μ).bind fun x7 => (gf_I 2 9 a0 μ).bind fun x12 => if x12 = x7 then some μ else (gf_P 2 6 a0 μ).bind fun x21 => (ga_len x21 μ).bind fun x24 => if x7 ≤ x24 then f_X1_listTurnings_J53 a0 x7 μ else (gf_P 2 6 a0 μ).bind fun x30 => (ga_len x30 μ).bind fun x33 => (f_X1_roomFor x33 x7 μ).bind fun x35 => (nw_A 20 x35 μ).bind fun n41 => (pf_P 2 6 a0 n41.1 n41.2).bind fun μ43 => (nw_A 20 x35 μ43).bind fun n48 => (pf_P 2 7 a0 n48.1 n48.2).bind fun μ50 => f_X1_listTurnings_J53 a0 x7 μ50 else none
abbrev Rn_X1_listTurnings (G : Gv) (Q : Option Value → Mm → Prop) (mc ms c s : Nat) (pc : Nat) (lv : List (Nat × Value)) (st : List Value) (μ : Mm) : Prop := Rn G RX1 cX1_listTurnings 3 none "listTurnings" (rmd 13 mc ms) (Zm G mc ms Q) c s pc lv st μ
theorem t_X1_listTurnings_J53 {a0 : Nat} {l1 : Int32} {μ : Mm} {x : Mm} (h : f_X1_listTurnings_J53 a0 l1 μ = some x) : Gr μ ((fun (q : Mm) => q) x) := by
  have hk : Gr μ μ := Gr.rfl
  obtain ⟨x54, e54, h⟩ := bd h
  obtain ⟨x57, e57, h⟩ := bd h
  obtain ⟨x61, e61, h⟩ := bd h
  obtain ⟨x64, e64, h⟩ := bd h
  have hk := Gr.after (Gr.of (t_X9_fillRows e64)) hk
  obtain ⟨μ69, e69, h⟩ := bd h
  have hk := Gr.after (Gr.of (kq_pfI e69)) hk
  have h := Option.some.inj h
  subst h
  exact hk
theorem t_X1_listTurnings {a0 : Nat} {μ : Mm} {x : Mm} (h : f_X1_listTurnings a0 μ = some x) : Gr μ ((fun (q : Mm) => q) x) := by
  have hk : Gr μ μ := Gr.rfl
  obtain ⟨_, h⟩ := ite_p h
  obtain ⟨x1, e1, h⟩ := bd h
  obtain ⟨x4, e4, h⟩ := bd h
  obtain ⟨x7, e7, h⟩ := bd h
  obtain ⟨x12, e12, h⟩ := bd h
  rcases ite_e h with ⟨_, h⟩ | ⟨_, h⟩
  · have h := Option.some.inj h
    subst h
    exact hk
  · obtain ⟨x21, e21, h⟩ := bd h
    obtain ⟨x24, e24, h⟩ := bd h
    rcases ite_e h with ⟨_, h⟩ | ⟨_, h⟩
    · exact Gr.after (t_X1_listTurnings_J53 h) hk
    · obtain ⟨x30, e30, h⟩ := bd h
      obtain ⟨x33, e33, h⟩ := bd h
      obtain ⟨x35, e35, h⟩ := bd h
      obtain ⟨n41, e41, h⟩ := bd h
      have hk := Gr.trans hk (gr_A (by decide) e41)
      obtain ⟨μ43, e43, h⟩ := bd h
      have hk := Gr.after (Gr.of (kq_pfP e43)) hk
      obtain ⟨n48, e48, h⟩ := bd h
      have hk := Gr.trans hk (gr_A (by decide) e48)
      obtain ⟨μ50, e50, h⟩ := bd h
      have hk := Gr.after (Gr.of (kq_pfP e50)) hk
      exact Gr.after (t_X1_listTurnings_J53 h) hk
set_option maxRecDepth 100000 in
set_option maxHeartbeats 4000000 in
theorem m_X1_listTurnings {G : Gv} (a0 : Nat) (μ : Mm) {r : Mm} (hx : f_X1_listTurnings a0 μ = some r) (mc ms : Nat) (hn : mm_N r ≤ mm_N μ + mc) (hz : mm_Z r ≤ mm_Z μ + ms) : Mt G yX1_listTurnings cX1_listTurnings 3 none 13 mc ms [.ref a0] μ (fun v μ' => v = none ∧ μ' = r) := by
  have hN : Nz μ μ 0 0 := ⟨rfl, rfl⟩
  have hC : 0 ≤ mc ∧ 0 ≤ ms := ⟨Nat.zero_le _, Nat.zero_le _⟩
  have hB : ∀ x : Mm, x = r → mm_N ((fun (q : Mm) => q) x) ≤ mm_N μ + mc ∧ mm_Z ((fun (q : Mm) => q) x) ≤ mm_Z μ + ms := fun x e => by subst e; exact ⟨hn, hz⟩
  refine Mt.of (by decide) (Nat.le_of_ble_eq_true rfl) ?_
  show Rn_X1_listTurnings G (fun v μ' => v = none ∧ μ' = r) mc ms 0 0 0 [(0, .ref a0)] [] μ
  obtain ⟨_, h⟩ := Sat_ifp (show Sat (f_X1_listTurnings a0 μ) (fun x => x = r) from ⟨_, hx, rfl⟩)
  have J53 : ∀ (a0_53 : Nat) (l1_53 : Int32) (μ_53 : Mm), ∀ (c53 z53 : Nat), Nz μ μ_53 c53 z53 → c53 ≤ mc ∧ z53 ≤ ms → Sat (f_X1_listTurnings_J53 a0_53 l1_53 μ_53) (fun x => x = r) → Rn_X1_listTurnings G (fun v μ' => v = none ∧ μ' = r) mc ms c53 z53 53 [(0, .ref a0_53), (1, .int l1_53)] [] μ_53 := by
    intro a0_53 l1_53 μ_53 c53 z53 hN hC h
    refine r_aload_n dX1_listTurnings_53 0 rfl ?_
    obtain ⟨x54, e54, h⟩ := Sat_bind h
    refine r_getP fk_X1_31 rfl e54 dX1_listTurnings_54 ?_
    obtain ⟨x57, e57, h⟩ := Sat_bind h
    refine r_getP fk_X1_63 rfl e57 dX1_listTurnings_57 ?_
    refine r_aload_n dX1_listTurnings_60 0 rfl ?_
    obtain ⟨x61, e61, h⟩ := Sat_bind h
    refine r_getP fk_X1_25 rfl e61 dX1_listTurnings_61 ?_
    obtain ⟨x64, e64, h⟩ := Sat_bind h
    refine r_cV (t := 10) [.ref x61] [] (m_X9_fillRows x57 x61 μ_53 e64) ck_X9_fillRows lk_X1_78 in_X9_fillRows se_X9_fillRows (kd_of e64) ⟨rfl, by decide, by decide⟩ rfl rfl (Nat.le_of_ble_eq_true rfl) ⟨Nat.le_of_ble_eq_true rfl, Nat.le_of_ble_eq_true rfl⟩ hC dX1_listTurnings_64 ?_
    have hN := nz_tl (t_X9_fillRows e64) hN
    refine r_aload_n dX1_listTurnings_67 0 rfl ?_
    refine r_iload_n dX1_listTurnings_68 1 rfl ?_
    obtain ⟨μ69, e69, h⟩ := Sat_bind h
    refine r_putI fk_X1_43 rfl rfl e69 dX1_listTurnings_69 ?_
    have hN := nz_tl (kq_pfI e69) hN
    refine r_widen hC.1 hC.2 ?_
    exact r_vreturn rfl (by rw [← Sat_eq h]; exact ⟨rfl, rfl⟩) dX1_listTurnings_72
  refine r_aload_n dX1_listTurnings_0 0 rfl ?_
  obtain ⟨x1, e1, h⟩ := Sat_bind h
  refine r_getP fk_X1_31 rfl e1 dX1_listTurnings_1 ?_
  obtain ⟨x4, e4, h⟩ := Sat_bind h
  refine r_getP fk_X1_63 rfl e4 dX1_listTurnings_4 ?_
  obtain ⟨x7, e7, h⟩ := Sat_bind h
  refine r_cV (t := 10) [] [] (m_X9_howMany x4 μ e7) ck_X9_howMany lk_X1_69 in_X9_howMany se_X9_howMany (kd_of e7) ⟨rfl, by decide, by decide⟩ rfl rfl (Nat.le_of_ble_eq_true rfl) ⟨Nat.le_of_ble_eq_true rfl, Nat.le_of_ble_eq_true rfl⟩ hC dX1_listTurnings_7 ?_
  refine r_istore_n (lv' := [(1, .int x7), (0, .ref a0)]) dX1_listTurnings_10 rfl (by decide) rfl ?_
  refine r_aload_n dX1_listTurnings_11 1 rfl ?_
  obtain ⟨x12, e12, h⟩ := Sat_bind h
  refine r_getI fk_X1_43 rfl e12 dX1_listTurnings_12 ?_
  refine r_iload_n dX1_listTurnings_15 0 rfl ?_
  refine r_icmp_ne 20 dX1_listTurnings_16 (by decide) (fun c16 => ?_) (fun c16 => ?_)
  · have h := Sat_neg c16 h
    refine r_aload_n dX1_listTurnings_20 1 rfl ?_
    obtain ⟨x21, e21, h⟩ := Sat_bind h
    refine r_getP fk_X1_25 rfl e21 dX1_listTurnings_21 ?_
    obtain ⟨x24, e24, h⟩ := Sat_bind h
    refine r_len e24 dX1_listTurnings_24 ?_
    refine r_iload_n dX1_listTurnings_25 0 rfl ?_
    refine r_icmp_ge 53 dX1_listTurnings_26 (by decide) (fun c26 => ?_) (fun c26 => ?_)
    · have h := Sat_pos c26 h
      exact r_sub [1, 0] rfl (J53 a0 x7 μ 0 0 hN hC h)
    · have h := Sat_neg c26 h
      refine r_aload_n dX1_listTurnings_29 1 rfl ?_
      obtain ⟨x30, e30, h⟩ := Sat_bind h
      refine r_getP fk_X1_25 rfl e30 dX1_listTurnings_30 ?_
      obtain ⟨x33, e33, h⟩ := Sat_bind h
      refine r_len e33 dX1_listTurnings_33 ?_
      refine r_iload_n dX1_listTurnings_34 0 rfl ?_
      obtain ⟨x35, e35, h⟩ := Sat_bind h
      refine r_cS [.int x33, .int x7] [] (m_X1_roomFor x33 x7 μ e35) ck_X1_roomFor lk_X1_75 st_X1_roomFor rfl rfl (Nat.le_of_ble_eq_true rfl) ⟨Nat.le_of_ble_eq_true rfl, Nat.le_of_ble_eq_true rfl⟩ hC dX1_listTurnings_35 ?_
      refine r_istore_n (lv' := [(2, .int x35), (1, .int x7), (0, .ref a0)]) dX1_listTurnings_38 rfl (by decide) rfl ?_
      refine r_aload_n dX1_listTurnings_39 2 rfl ?_
      refine r_iload_n dX1_listTurnings_40 0 rfl ?_
      obtain ⟨n41, e41, h⟩ := Sat_bind h
      have hN := nz_A (by decide) e41 hN
      have hC := bud_of hN (by
        obtain ⟨x, h, hx⟩ := id h
        have hk : Gr (n41.2) (n41.2) := Gr.rfl
        refine bud_le (?_ : Gr _ ((fun (q : Mm) => q) x)) (hB x hx)
        obtain ⟨μ43, e43, h⟩ := bd h
        have hk := Gr.after (Gr.of (kq_pfP e43)) hk
        obtain ⟨n48, e48, h⟩ := bd h
        have hk := Gr.trans hk (gr_A (by decide) e48)
        obtain ⟨μ50, e50, h⟩ := bd h
        have hk := Gr.after (Gr.of (kq_pfP e50)) hk
        exact Gr.after (t_X1_listTurnings_J53 h) hk)
      refine r_newarray (t := 20) (by decide) rfl e41 ka_20 hC dX1_listTurnings_41 ?_
      obtain ⟨μ43, e43, h⟩ := Sat_bind h
      refine r_putP fk_X1_25 (Or.inl rfl) rfl e43 dX1_listTurnings_43 ?_
      have hN := nz_tl (kq_pfP e43) hN
      refine r_aload_n dX1_listTurnings_46 2 rfl ?_
      refine r_iload_n dX1_listTurnings_47 0 rfl ?_
      obtain ⟨n48, e48, h⟩ := Sat_bind h
      have hN := nz_A (by decide) e48 hN
      have hC := bud_of hN (by
        obtain ⟨x, h, hx⟩ := id h
        have hk : Gr (n48.2) (n48.2) := Gr.rfl
        refine bud_le (?_ : Gr _ ((fun (q : Mm) => q) x)) (hB x hx)
        obtain ⟨μ50, e50, h⟩ := bd h
        have hk := Gr.after (Gr.of (kq_pfP e50)) hk
        exact Gr.after (t_X1_listTurnings_J53 h) hk)
      refine r_newarray (t := 20) (by decide) rfl e48 ka_20 hC dX1_listTurnings_48 ?_
      obtain ⟨μ50, e50, h⟩ := Sat_bind h
      refine r_putP fk_X1_28 (Or.inl rfl) rfl e50 dX1_listTurnings_50 ?_
      have hN := nz_tl (kq_pfP e50) hN
      exact r_sub [2, 1] rfl (J53 a0 x7 μ50 (0 + 1 + 1) (0 + (x35).toNatClampNeg + (x35).toNatClampNeg) hN hC h)
  · have h := Sat_pos c16 h
    refine r_widen hC.1 hC.2 ?_
    exact r_vreturn rfl (by rw [← Sat_eq h]; exact ⟨rfl, rfl⟩) dX1_listTurnings_19
theorem dX1_findComings_0 : decode cX1_findComings 0 = .ok (.aload_n 0, 1) := by decide +kernel
theorem dX1_findComings_1 : decode cX1_findComings 1 = .ok (.invokevirtual 82, 3) := by decide +kernel
theorem dX1_findComings_4 : decode cX1_findComings 4 = .ok (.iload_n 1, 1) := by decide +kernel
theorem dX1_findComings_5 : decode cX1_findComings 5 = .ok (.aload_n 0, 1) := by decide +kernel
theorem dX1_findComings_6 : decode cX1_findComings 6 = .ok (.getfield 47, 3) := by decide +kernel
theorem dX1_findComings_9 : decode cX1_findComings 9 = .ok (.iconst (-1), 1) := by decide +kernel
theorem dX1_findComings_10 : decode cX1_findComings 10 = .ok (.ixor, 1) := by decide +kernel
theorem dX1_findComings_11 : decode cX1_findComings 11 = .ok (.iand, 1) := by decide +kernel
theorem dX1_findComings_12 : decode cX1_findComings 12 = .ok (.iconst 1, 1) := by decide +kernel
theorem dX1_findComings_13 : decode cX1_findComings 13 = .ok (.aload_n 0, 1) := by decide +kernel
theorem dX1_findComings_14 : decode cX1_findComings 14 = .ok (.getfield 31, 3) := by decide +kernel
theorem dX1_findComings_17 : decode cX1_findComings 17 = .ok (.getfield 85, 3) := by decide +kernel
theorem dX1_findComings_20 : decode cX1_findComings 20 = .ok (.getfield 89, 3) := by decide +kernel
theorem dX1_findComings_23 : decode cX1_findComings 23 = .ok (.ishl, 1) := by decide +kernel
theorem dX1_findComings_24 : decode cX1_findComings 24 = .ok (.iconst 1, 1) := by decide +kernel
theorem dX1_findComings_25 : decode cX1_findComings 25 = .ok (.isub, 1) := by decide +kernel
theorem dX1_findComings_26 : decode cX1_findComings 26 = .ok (.iand, 1) := by decide +kernel
theorem dX1_findComings_27 : decode cX1_findComings 27 = .ok (.istore_n 2, 1) := by decide +kernel
theorem dX1_findComings_28 : decode cX1_findComings 28 = .ok (.iload_n 2, 1) := by decide +kernel
theorem dX1_findComings_29 : decode cX1_findComings 29 = .ok (.ifCond .ne 4, 3) := by decide +kernel
theorem dX1_findComings_32 : decode cX1_findComings 32 = .ok (.return_, 1) := by decide +kernel
theorem dX1_findComings_33 : decode cX1_findComings 33 = .ok (.iconst 0, 1) := by decide +kernel
theorem dX1_findComings_34 : decode cX1_findComings 34 = .ok (.istore_n 3, 1) := by decide +kernel
theorem dX1_findComings_35 : decode cX1_findComings 35 = .ok (.iload_n 3, 1) := by decide +kernel
theorem dX1_findComings_36 : decode cX1_findComings 36 = .ok (.bipush 12, 2) := by decide +kernel
theorem dX1_findComings_38 : decode cX1_findComings 38 = .ok (.if_icmp .ge 52, 3) := by decide +kernel
theorem dX1_findComings_41 : decode cX1_findComings 41 = .ok (.aload_n 0, 1) := by decide +kernel
theorem dX1_findComings_42 : decode cX1_findComings 42 = .ok (.getfield 11, 3) := by decide +kernel
theorem dX1_findComings_45 : decode cX1_findComings 45 = .ok (.iload_n 3, 1) := by decide +kernel
theorem dX1_findComings_46 : decode cX1_findComings 46 = .ok (.aaload, 1) := by decide +kernel
theorem dX1_findComings_47 : decode cX1_findComings 47 = .ok (.arraylength, 1) := by decide +kernel
theorem dX1_findComings_48 : decode cX1_findComings 48 = .ok (.istore 4, 2) := by decide +kernel
theorem dX1_findComings_50 : decode cX1_findComings 50 = .ok (.iload_n 2, 1) := by decide +kernel
theorem dX1_findComings_51 : decode cX1_findComings 51 = .ok (.iload_n 3, 1) := by decide +kernel
theorem dX1_findComings_52 : decode cX1_findComings 52 = .ok (.ishr, 1) := by decide +kernel
theorem dX1_findComings_53 : decode cX1_findComings 53 = .ok (.iconst 1, 1) := by decide +kernel
theorem dX1_findComings_54 : decode cX1_findComings 54 = .ok (.iand, 1) := by decide +kernel
theorem dX1_findComings_55 : decode cX1_findComings 55 = .ok (.ifCond .eq 29, 3) := by decide +kernel
theorem dX1_findComings_58 : decode cX1_findComings 58 = .ok (.iload 4, 2) := by decide +kernel
theorem dX1_findComings_60 : decode cX1_findComings 60 = .ok (.aload_n 0, 1) := by decide +kernel
theorem dX1_findComings_61 : decode cX1_findComings 61 = .ok (.getfield 43, 3) := by decide +kernel
theorem dX1_findComings_64 : decode cX1_findComings 64 = .ok (.if_icmp .ge 20, 3) := by decide +kernel
theorem dX1_findComings_67 : decode cX1_findComings 67 = .ok (.aload_n 0, 1) := by decide +kernel
theorem dX1_findComings_68 : decode cX1_findComings 68 = .ok (.getfield 11, 3) := by decide +kernel
theorem dX1_findComings_71 : decode cX1_findComings 71 = .ok (.iload_n 3, 1) := by decide +kernel
theorem dX1_findComings_72 : decode cX1_findComings 72 = .ok (.iload 4, 2) := by decide +kernel
theorem dX1_findComings_74 : decode cX1_findComings 74 = .ok (.aload_n 0, 1) := by decide +kernel
theorem dX1_findComings_75 : decode cX1_findComings 75 = .ok (.getfield 43, 3) := by decide +kernel
theorem dX1_findComings_78 : decode cX1_findComings 78 = .ok (.invokestatic 75, 3) := by decide +kernel
theorem dX1_findComings_81 : decode cX1_findComings 81 = .ok (.newarray .long, 2) := by decide +kernel
theorem dX1_findComings_83 : decode cX1_findComings 83 = .ok (.aastore, 1) := by decide +kernel
theorem dX1_findComings_84 : decode cX1_findComings 84 = .ok (.iinc 3 1, 3) := by decide +kernel
theorem dX1_findComings_87 : decode cX1_findComings 87 = .ok (.goto (-52), 3) := by decide +kernel
theorem dX1_findComings_90 : decode cX1_findComings 90 = .ok (.iconst 0, 1) := by decide +kernel
theorem dX1_findComings_91 : decode cX1_findComings 91 = .ok (.istore_n 3, 1) := by decide +kernel
theorem dX1_findComings_92 : decode cX1_findComings 92 = .ok (.iload_n 3, 1) := by decide +kernel
theorem dX1_findComings_93 : decode cX1_findComings 93 = .ok (.aload_n 0, 1) := by decide +kernel
theorem dX1_findComings_94 : decode cX1_findComings 94 = .ok (.getfield 43, 3) := by decide +kernel
theorem dX1_findComings_97 : decode cX1_findComings 97 = .ok (.if_icmp .ge 37, 3) := by decide +kernel
theorem dX1_findComings_100 : decode cX1_findComings 100 = .ok (.iload_n 3, 1) := by decide +kernel
theorem dX1_findComings_101 : decode cX1_findComings 101 = .ok (.aload_n 0, 1) := by decide +kernel
theorem dX1_findComings_102 : decode cX1_findComings 102 = .ok (.getfield 25, 3) := by decide +kernel
theorem dX1_findComings_105 : decode cX1_findComings 105 = .ok (.arraylength, 1) := by decide +kernel
theorem dX1_findComings_106 : decode cX1_findComings 106 = .ok (.if_icmp .ge 28, 3) := by decide +kernel
theorem dX1_findComings_109 : decode cX1_findComings 109 = .ok (.aload_n 0, 1) := by decide +kernel
theorem dX1_findComings_110 : decode cX1_findComings 110 = .ok (.getfield 35, 3) := by decide +kernel
theorem dX1_findComings_113 : decode cX1_findComings 113 = .ok (.aload_n 0, 1) := by decide +kernel
theorem dX1_findComings_114 : decode cX1_findComings 114 = .ok (.getfield 25, 3) := by decide +kernel
theorem dX1_findComings_117 : decode cX1_findComings 117 = .ok (.iload_n 3, 1) := by decide +kernel
theorem dX1_findComings_118 : decode cX1_findComings 118 = .ok (.iaload, 1) := by decide +kernel
theorem dX1_findComings_119 : decode cX1_findComings 119 = .ok (.invokevirtual 92, 3) := by decide +kernel
theorem dX1_findComings_122 : decode cX1_findComings 122 = .ok (.aload_n 0, 1) := by decide +kernel
theorem dX1_findComings_123 : decode cX1_findComings 123 = .ok (.iload_n 3, 1) := by decide +kernel
theorem dX1_findComings_124 : decode cX1_findComings 124 = .ok (.iload_n 2, 1) := by decide +kernel
theorem dX1_findComings_125 : decode cX1_findComings 125 = .ok (.invokevirtual 98, 3) := by decide +kernel
theorem dX1_findComings_128 : decode cX1_findComings 128 = .ok (.iinc 3 1, 3) := by decide +kernel
theorem dX1_findComings_131 : decode cX1_findComings 131 = .ok (.goto (-39), 3) := by decide +kernel
theorem dX1_findComings_134 : decode cX1_findComings 134 = .ok (.aload_n 0, 1) := by decide +kernel
theorem dX1_findComings_135 : decode cX1_findComings 135 = .ok (.dup, 1) := by decide +kernel
theorem dX1_findComings_136 : decode cX1_findComings 136 = .ok (.getfield 47, 3) := by decide +kernel
theorem dX1_findComings_139 : decode cX1_findComings 139 = .ok (.iload_n 2, 1) := by decide +kernel
theorem dX1_findComings_140 : decode cX1_findComings 140 = .ok (.ior, 1) := by decide +kernel
theorem dX1_findComings_141 : decode cX1_findComings 141 = .ok (.putfield 47, 3) := by decide +kernel
theorem dX1_findComings_144 : decode cX1_findComings 144 = .ok (.return_, 1) := by decide +kernel
noncomputable def f_X1_findComings_J134 (a0 : Nat) (l2 : Int32) (μ : Mm) : Option Mm :=
  (gf_I 2 10 a0 μ).bind fun x136 => (pf_I 2 10 a0 (x136 ||| l2) μ).bind fun μ141 => some μ141
noncomputable def f_X1_findComings_L92 (a0 : Nat) (l2 : Int32) (s92 : Int32 × Mm) : Option ((Int32 × Mm) ⊕ (Mm)) :=
  (gf_I 2 9 a0 s92.2).bind fun x94 => if x94 ≤ s92.1 then some (.inr s92.2) else (gf_P 2 6 a0 s92.2).bind fun x102 => (ga_len x102 s92.2).bind fun x105 => if x105 ≤ s92.1 then some (.inr s92.2) else (gf_P 2 0 a0 s92.2).bind fun x110 => (gf_P 2 6 a0 s92.2).bind fun x114 => (ga_I x114 s92.1 s92.2).bind fun x118 => (f_X4_setTurning x110 x118 s92.2).bind fun x119 => (f_X1_findComingsBy a0 s92.1 l2 x119).bind fun x125 => (some (s92.1 + (1 : Int32))).bind fun v128 => some (.inl (v128, x125))
noncomputable def f_X1_findComings_J90 (a0 : Nat) (l2 : Int32) (μ : Mm) : Option Mm :=
  (whl (f_X1_findComings_L92 a0 l2) ((0 : Int32), μ)).bind (fun b92 => f_X1_findComings_J134 a0 l2 b92)
noncomputable def f_X1_findComings_J84 (a0 : Nat) (l2 : Int32) (l3 : Int32) (μ : Mm) : Option ((Int32 × Mm) ⊕ (Mm)) :=
  (some (l3 + (1 : Int32))).bind fun v84 => some (.inl (v84, μ))
noncomputable def f_X1_findComings_L35 (a0 : Nat) (l2 : Int32) (s35 : Int32 × Mm) : Option ((Int32 × Mm) ⊕ (Mm)) :=
  if (12 : Int32) ≤ s35.1 then some (.inr s35.2) else (gf_P 2 2 a0 s35.2).bind fun x42 => (ga_P 25 x42 s35.1 s35.2).bind fun x46 => (ga_len x46 s35.2).bind fun x47 => if ((l2 >>> (s35.1 &&& 31)) &&& (1 : Int32)) = 0 then f_X1_findComings_J84 a0 l2 s35.1 s35.2 else (gf_I 2 9 a0 s35.2).bind fun x61 => if x61 ≤ x47 then f_X1_findComings_J84 a0 l2 s35.1 s35.2 else (gf_P 2 2 a0 s35.2).bind fun x68 => (gf_I 2 9 a0 s35.2).bind fun x75 => (f_X1_roomFor x47 x75 s35.2).bind fun x78 => (nw_A 21 x78 s35.2).bind fun n81 => (pa_P 25 x68 s35.1 n81.1 n81.2).bind fun μ83 => f_X1_findComings_J84 a0 l2 s35.1 μ83
noncomputable def f_X1_findComings (a0 : Nat) (l1 : Int32) (μ : Mm) : Option Mm :=
  if (mm_K μ a0).1 = 2 then (f_X1_listTurnings a0 μ).bind fun x1 => (gf_I 2 10 a0 x1).bind fun x6 => (gf_P 2 5 a0 x1).bind fun x14 => (gf_P 8 3 x14 x1).bind fun x17 => (gf_I 3 1 x17 x1).bind fun x20 => (some ((l1 &&& (x6 ^^^ (-1 : Int32))) &&& (((1 : Int32) <<< (x20 &&& 31)) - (1 : Int32)))).bind fun v27 => if v27 = 0 then some x1 else (whl (f_X1_findComings_L35 a0 v27) ((0 : Int32), x1)).bind (fun b35 => f_X1_findComings_J90 a0 v27 b35) else none
abbrev Rn_X1_findComings (G : Gv) (Q : Option Value → Mm → Prop) (mc ms c s : Nat) (pc : Nat) (lv : List (Nat × Value)) (st : List Value) (μ : Mm) : Prop := Rn G RX1 cX1_findComings 5 none "findComings" (rmd 14 mc ms) (Zm G mc ms Q) c s pc lv st μ
theorem t_X1_findComings_J134 {a0 : Nat} {l2 : Int32} {μ : Mm} {x : Mm} (h : f_X1_findComings_J134 a0 l2 μ = some x) : Gr μ ((fun (q : Mm) => q) x) := by
  have hk : Gr μ μ := Gr.rfl
  obtain ⟨x136, e136, h⟩ := bd h
  obtain ⟨μ141, e141, h⟩ := bd h
  have hk := Gr.after (Gr.of (kq_pfI e141)) hk
  have h := Option.some.inj h
  subst h
  exact hk
theorem t_X1_findComings_L92 {a0 : Nat} {l2 : Int32} {s92 : Int32 × Mm} {x : ((Int32 × Mm) ⊕ (Mm))} (h : f_X1_findComings_L92 a0 l2 s92 = some x) : Gr ((fun (q : Int32 × Mm) => q.2) s92) (sm (fun (q : Int32 × Mm) => q.2) (fun (q : Mm) => q) x) := by
  have hk : Gr (s92.2) (s92.2) := Gr.rfl
  obtain ⟨x94, e94, h⟩ := bd h
  rcases ite_e h with ⟨_, h⟩ | ⟨_, h⟩
  · have h := Option.some.inj h
    subst h
    exact hk
  · obtain ⟨x102, e102, h⟩ := bd h
    obtain ⟨x105, e105, h⟩ := bd h
    rcases ite_e h with ⟨_, h⟩ | ⟨_, h⟩
    · have h := Option.some.inj h
      subst h
      exact hk
    · obtain ⟨x110, e110, h⟩ := bd h
      obtain ⟨x114, e114, h⟩ := bd h
      obtain ⟨x118, e118, h⟩ := bd h
      obtain ⟨x119, e119, h⟩ := bd h
      have hk := Gr.after (Gr.of (t_X4_setTurning e119)) hk
      obtain ⟨x125, e125, h⟩ := bd h
      have hk := Gr.after (Gr.of (t_X1_findComingsBy e125)) hk
      obtain ⟨v128, e128, h⟩ := bd h
      have h := Option.some.inj h
      subst h
      exact hk
theorem t_X1_findComings_W92 {a0 : Nat} {l2 : Int32} {s92 : Int32 × Mm} {b : Mm} (h : whl (f_X1_findComings_L92 a0 l2) s92 = some b) : Gr ((fun (q : Int32 × Mm) => q.2) s92) ((fun (q : Mm) => q) b) :=
  whl_gr (g := (fun (q : Int32 × Mm) => q.2)) (gb := (fun (q : Mm) => q)) (fun s x hx => t_X1_findComings_L92 hx) h
theorem t_X1_findComings_J90 {a0 : Nat} {l2 : Int32} {μ : Mm} {x : Mm} (h : f_X1_findComings_J90 a0 l2 μ = some x) : Gr μ ((fun (q : Mm) => q) x) := by
  have hk : Gr μ μ := Gr.rfl
  obtain ⟨b92, w92, h⟩ := bd h
  have hk := Gr.after (t_X1_findComings_W92 w92) hk
  exact Gr.after (t_X1_findComings_J134 h) hk
theorem t_X1_findComings_J84 {a0 : Nat} {l2 : Int32} {l3 : Int32} {μ : Mm} {x : ((Int32 × Mm) ⊕ (Mm))} (h : f_X1_findComings_J84 a0 l2 l3 μ = some x) : Gr μ ((sm (fun (q : Int32 × Mm) => q.2) (fun (q : Mm) => q)) x) := by
  have hk : Gr μ μ := Gr.rfl
  obtain ⟨v84, e84, h⟩ := bd h
  have h := Option.some.inj h
  subst h
  exact hk
theorem t_X1_findComings_L35 {a0 : Nat} {l2 : Int32} {s35 : Int32 × Mm} {x : ((Int32 × Mm) ⊕ (Mm))} (h : f_X1_findComings_L35 a0 l2 s35 = some x) : Gr ((fun (q : Int32 × Mm) => q.2) s35) (sm (fun (q : Int32 × Mm) => q.2) (fun (q : Mm) => q) x) := by
  have hk : Gr (s35.2) (s35.2) := Gr.rfl
  rcases ite_e h with ⟨_, h⟩ | ⟨_, h⟩
  · have h := Option.some.inj h
    subst h
    exact hk
  · obtain ⟨x42, e42, h⟩ := bd h
    obtain ⟨x46, e46, h⟩ := bd h
    obtain ⟨x47, e47, h⟩ := bd h
    rcases ite_e h with ⟨_, h⟩ | ⟨_, h⟩
    · exact Gr.after (t_X1_findComings_J84 h) hk
    · obtain ⟨x61, e61, h⟩ := bd h
      rcases ite_e h with ⟨_, h⟩ | ⟨_, h⟩
      · exact Gr.after (t_X1_findComings_J84 h) hk
      · obtain ⟨x68, e68, h⟩ := bd h
        obtain ⟨x75, e75, h⟩ := bd h
        obtain ⟨x78, e78, h⟩ := bd h
        obtain ⟨n81, e81, h⟩ := bd h
        have hk := Gr.trans hk (gr_A (by decide) e81)
        obtain ⟨μ83, e83, h⟩ := bd h
        have hk := Gr.after (Gr.of (kq_paP e83)) hk
        exact Gr.after (t_X1_findComings_J84 h) hk
theorem t_X1_findComings_W35 {a0 : Nat} {l2 : Int32} {s35 : Int32 × Mm} {b : Mm} (h : whl (f_X1_findComings_L35 a0 l2) s35 = some b) : Gr ((fun (q : Int32 × Mm) => q.2) s35) ((fun (q : Mm) => q) b) :=
  whl_gr (g := (fun (q : Int32 × Mm) => q.2)) (gb := (fun (q : Mm) => q)) (fun s x hx => t_X1_findComings_L35 hx) h
theorem t_X1_findComings {a0 : Nat} {l1 : Int32} {μ : Mm} {x : Mm} (h : f_X1_findComings a0 l1 μ = some x) : Gr μ ((fun (q : Mm) => q) x) := by
  have hk : Gr μ μ := Gr.rfl
  obtain ⟨_, h⟩ := ite_p h
  obtain ⟨x1, e1, h⟩ := bd h
  have hk := Gr.after (t_X1_listTurnings e1) hk
  obtain ⟨x6, e6, h⟩ := bd h
  obtain ⟨x14, e14, h⟩ := bd h
  obtain ⟨x17, e17, h⟩ := bd h
  obtain ⟨x20, e20, h⟩ := bd h
  obtain ⟨v27, e27, h⟩ := bd h
  rcases ite_e h with ⟨_, h⟩ | ⟨_, h⟩
  · have h := Option.some.inj h
    subst h
    exact hk
  · obtain ⟨b35, w35, h⟩ := bd h
    have hk := Gr.after (t_X1_findComings_W35 w35) hk
    exact Gr.after (t_X1_findComings_J90 h) hk
set_option maxRecDepth 100000 in
set_option maxHeartbeats 4000000 in
theorem m_X1_findComings {G : Gv} (a0 : Nat) (l1 : Int32) (μ : Mm) {r : Mm} (hx : f_X1_findComings a0 l1 μ = some r) (mc ms : Nat) (hn : mm_N r ≤ mm_N μ + mc) (hz : mm_Z r ≤ mm_Z μ + ms) : Mt G yX1_findComings cX1_findComings 5 none 14 mc ms [.ref a0, .int l1] μ (fun v μ' => v = none ∧ μ' = r) := by
  have hN : Nz μ μ 0 0 := ⟨rfl, rfl⟩
  have hC : 0 ≤ mc ∧ 0 ≤ ms := ⟨Nat.zero_le _, Nat.zero_le _⟩
  have hB : ∀ x : Mm, x = r → mm_N ((fun (q : Mm) => q) x) ≤ mm_N μ + mc ∧ mm_Z ((fun (q : Mm) => q) x) ≤ mm_Z μ + ms := fun x e => by subst e; exact ⟨hn, hz⟩
  refine Mt.of (by decide) (Nat.le_of_ble_eq_true rfl) ?_
  show Rn_X1_findComings G (fun v μ' => v = none ∧ μ' = r) mc ms 0 0 0 [(0, .ref a0), (1, .int l1)] [] μ
  obtain ⟨_, h⟩ := Sat_ifp (show Sat (f_X1_findComings a0 l1 μ) (fun x => x = r) from ⟨_, hx, rfl⟩)
  have J134 : ∀ (a0_134 : Nat) (l2_134 : Int32) (μ_134 : Mm), ∀ (c134 z134 : Nat), Nz μ μ_134 c134 z134 → c134 ≤ mc ∧ z134 ≤ ms → Sat (f_X1_findComings_J134 a0_134 l2_134 μ_134) (fun x => x = r) → Rn_X1_findComings G (fun v μ' => v = none ∧ μ' = r) mc ms c134 z134 134 [(0, .ref a0_134), (2, .int l2_134)] [] μ_134 := by
    intro a0_134 l2_134 μ_134 c134 z134 hN hC h
    refine r_aload_n dX1_findComings_134 0 rfl ?_
    refine r_dup dX1_findComings_135 rfl ?_
    obtain ⟨x136, e136, h⟩ := Sat_bind h
    refine r_getI fk_X1_47 rfl e136 dX1_findComings_136 ?_
    refine r_iload_n dX1_findComings_139 1 rfl ?_
    refine r_ior dX1_findComings_140 ?_
    obtain ⟨μ141, e141, h⟩ := Sat_bind h
    refine r_putI fk_X1_47 rfl rfl e141 dX1_findComings_141 ?_
    have hN := nz_tl (kq_pfI e141) hN
    refine r_widen hC.1 hC.2 ?_
    exact r_vreturn rfl (by rw [← Sat_eq h]; exact ⟨rfl, rfl⟩) dX1_findComings_144
  have J90 : ∀ (a0_90 : Nat) (l2_90 : Int32) (μ_90 : Mm), ∀ (c90 z90 : Nat), Nz μ μ_90 c90 z90 → c90 ≤ mc ∧ z90 ≤ ms → Sat (f_X1_findComings_J90 a0_90 l2_90 μ_90) (fun x => x = r) → Rn_X1_findComings G (fun v μ' => v = none ∧ μ' = r) mc ms c90 z90 90 [(0, .ref a0_90), (2, .int l2_90)] [] μ_90 := by
    intro a0_90 l2_90 μ_90 c90 z90 hN hC h
    refine r_iconst (v := 0) dX1_findComings_90 (by decide) ?_
    refine r_istore_n (lv' := [(3, .int (0 : Int32)), (0, .ref a0_90), (2, .int l2_90)]) dX1_findComings_91 rfl (by decide) rfl ?_
    refine r_sub (lv' := [(0, .ref a0_90), (2, .int l2_90), (3, .int (0 : Int32))]) [1, 2, 0] rfl ?_
    refine whl_B (s0 := (((0 : Int32), μ_90) : Int32 × Mm)) (g := (fun (q : Int32 × Mm) => q.2)) (gb := (fun (q : Mm) => q)) (Nr := mm_N μ + mc) (Zr := mm_Z μ + ms) (RR := fun (s92 : Int32 × Mm) => ∀ (c92 z92 : Nat), Nz μ s92.2 c92 z92 → c92 ≤ mc ∧ z92 ≤ ms → Rn_X1_findComings G (fun v μ' => v = none ∧ μ' = r) mc ms c92 z92 92 [(0, .ref a0_90), (2, .int l2_90), (3, .int s92.1)] [] s92.2) (fun s x hx => t_X1_findComings_L92 hx) ?_ ?_ (Sat_bindK h) c90 z90 hN hC
    · intro b92 hb
      obtain ⟨x, h, hx⟩ := hb
      have hk : Gr ((fun (q : Mm) => q) b92) ((fun (q : Mm) => q) b92) := Gr.rfl
      refine bud_le (?_ : Gr _ ((fun (q : Mm) => q) x)) (hB x hx)
      exact Gr.after (t_X1_findComings_J134 h) hk
    · intro s92 K92 hI92 hX92 hB92 h c92 z92 hN hC
      refine r_iload_n dX1_findComings_92 2 rfl ?_
      refine r_aload_n dX1_findComings_93 0 rfl ?_
      obtain ⟨x94, e94, h⟩ := Sat_bind h
      refine r_getI fk_X1_43 rfl e94 dX1_findComings_94 ?_
      refine r_icmp_ge 134 dX1_findComings_97 (by decide) (fun c97 => ?_) (fun c97 => ?_)
      · have h := Sat_pos c97 h
        have h := hX92 _ (Sat_some h)
        exact r_sub [0, 1] rfl (J134 a0_90 l2_90 s92.2 c92 z92 hN hC h)
      · have h := Sat_neg c97 h
        refine r_iload_n dX1_findComings_100 2 rfl ?_
        refine r_aload_n dX1_findComings_101 0 rfl ?_
        obtain ⟨x102, e102, h⟩ := Sat_bind h
        refine r_getP fk_X1_25 rfl e102 dX1_findComings_102 ?_
        obtain ⟨x105, e105, h⟩ := Sat_bind h
        refine r_len e105 dX1_findComings_105 ?_
        refine r_icmp_ge 134 dX1_findComings_106 (by decide) (fun c106 => ?_) (fun c106 => ?_)
        · have h := Sat_pos c106 h
          have h := hX92 _ (Sat_some h)
          exact r_sub [0, 1] rfl (J134 a0_90 l2_90 s92.2 c92 z92 hN hC h)
        · have h := Sat_neg c106 h
          refine r_aload_n dX1_findComings_109 0 rfl ?_
          obtain ⟨x110, e110, h⟩ := Sat_bind h
          refine r_getP fk_X1_35 rfl e110 dX1_findComings_110 ?_
          refine r_aload_n dX1_findComings_113 0 rfl ?_
          obtain ⟨x114, e114, h⟩ := Sat_bind h
          refine r_getP fk_X1_25 rfl e114 dX1_findComings_114 ?_
          refine r_iload_n dX1_findComings_117 2 rfl ?_
          obtain ⟨x118, e118, h⟩ := Sat_bind h
          refine r_iaload e118 dX1_findComings_118 ?_
          obtain ⟨x119, e119, h⟩ := Sat_bind h
          refine r_cV (t := 5) [.int x118] [] (m_X4_setTurning x110 x118 s92.2 e119) ck_X4_setTurning lk_X1_92 in_X4_setTurning se_X4_setTurning (kd_of e119) ⟨rfl, by decide, by decide⟩ rfl rfl (Nat.le_of_ble_eq_true rfl) ⟨Nat.le_of_ble_eq_true rfl, Nat.le_of_ble_eq_true rfl⟩ hC dX1_findComings_119 ?_
          have hN := nz_tl (t_X4_setTurning e119) hN
          refine r_aload_n dX1_findComings_122 0 rfl ?_
          refine r_iload_n dX1_findComings_123 2 rfl ?_
          refine r_iload_n dX1_findComings_124 1 rfl ?_
          obtain ⟨x125, e125, h⟩ := Sat_bind h
          refine r_cV (t := 2) [.int s92.1, .int l2_90] [] (m_X1_findComingsBy a0_90 s92.1 l2_90 x119 e125) ck_X1_findComingsBy lk_X1_98 in_X1_findComingsBy se_X1_findComingsBy (kd_of e125) ⟨rfl, by decide, by decide⟩ rfl rfl (Nat.le_of_ble_eq_true rfl) ⟨Nat.le_of_ble_eq_true rfl, Nat.le_of_ble_eq_true rfl⟩ hC dX1_findComings_125 ?_
          have hN := nz_tl (t_X1_findComingsBy e125) hN
          obtain ⟨v128, e128, h⟩ := Sat_bind h
          refine r_iinc (j := 2) (v := v128) (lv' := [(3, .int v128), (0, .ref a0_90), (2, .int l2_90)]) dX1_findComings_128 rfl (iinc_v e128 (by decide)) (by decide) rfl ?_
          refine r_goto 92 dX1_findComings_131 (by decide) ?_
          exact r_sub [1, 2, 0] rfl (hI92 _ (Sat_some h) c92 z92 hN hC)
  refine r_aload_n dX1_findComings_0 0 rfl ?_
  obtain ⟨x1, e1, h⟩ := Sat_bind h
  have hN := nz_call (t_X1_listTurnings e1) hN
  have hC := bud_of hN (by
    obtain ⟨x, h, hx⟩ := id h
    have hk : Gr (x1) (x1) := Gr.rfl
    refine bud_le (?_ : Gr _ ((fun (q : Mm) => q) x)) (hB x hx)
    obtain ⟨x6, e6, h⟩ := bd h
    obtain ⟨x14, e14, h⟩ := bd h
    obtain ⟨x17, e17, h⟩ := bd h
    obtain ⟨x20, e20, h⟩ := bd h
    obtain ⟨v27, e27, h⟩ := bd h
    rcases ite_e h with ⟨_, h⟩ | ⟨_, h⟩
    · have h := Option.some.inj h
      subst h
      exact hk
    · obtain ⟨b35, w35, h⟩ := bd h
      have hk := Gr.after (t_X1_findComings_W35 w35) hk
      exact Gr.after (t_X1_findComings_J90 h) hk)
  refine r_bV (t := 2) [] [] (m_X1_listTurnings a0 μ e1 (mm_N x1 - mm_N μ) (mm_Z x1 - mm_Z μ) gr_N gr_Z) ck_X1_listTurnings lk_X1_82 in_X1_listTurnings se_X1_listTurnings (kd_of e1) ⟨rfl, by decide, by decide⟩ rfl rfl (Nat.le_of_ble_eq_true rfl) ⟨Nat.le_of_ble_eq_true rfl, Nat.le_of_ble_eq_true rfl⟩ hC dX1_findComings_1 ?_
  refine r_iload_n dX1_findComings_4 1 rfl ?_
  refine r_aload_n dX1_findComings_5 0 rfl ?_
  obtain ⟨x6, e6, h⟩ := Sat_bind h
  refine r_getI fk_X1_47 rfl e6 dX1_findComings_6 ?_
  refine r_iconst (v := -1) dX1_findComings_9 (by decide) ?_
  refine r_ixor dX1_findComings_10 ?_
  refine r_iand dX1_findComings_11 ?_
  refine r_iconst (v := 1) dX1_findComings_12 (by decide) ?_
  refine r_aload_n dX1_findComings_13 0 rfl ?_
  obtain ⟨x14, e14, h⟩ := Sat_bind h
  refine r_getP fk_X1_31 rfl e14 dX1_findComings_14 ?_
  obtain ⟨x17, e17, h⟩ := Sat_bind h
  refine r_getP fk_X1_85 rfl e17 dX1_findComings_17 ?_
  obtain ⟨x20, e20, h⟩ := Sat_bind h
  refine r_getI fk_X1_89 rfl e20 dX1_findComings_20 ?_
  refine r_ishl dX1_findComings_23 ?_
  refine r_iconst (v := 1) dX1_findComings_24 (by decide) ?_
  refine r_isub dX1_findComings_25 ?_
  refine r_iand dX1_findComings_26 ?_
  obtain ⟨v27, e27, h⟩ := Sat_bind h
  refine r_topi (Option.some.inj e27) ?_
  refine r_istore_n (lv' := [(2, .int v27), (0, .ref a0), (1, .int l1)]) dX1_findComings_27 rfl (by decide) rfl ?_
  refine r_iload_n dX1_findComings_28 0 rfl ?_
  refine r_if_ne 33 dX1_findComings_29 (by decide) (fun c29 => ?_) (fun c29 => ?_)
  · have h := Sat_neg c29 h
    refine r_iconst (v := 0) dX1_findComings_33 (by decide) ?_
    refine r_istore_n (lv' := [(3, .int (0 : Int32)), (2, .int v27), (0, .ref a0), (1, .int l1)]) dX1_findComings_34 rfl (by decide) rfl ?_
    refine r_sub (lv' := [(0, .ref a0), (2, .int v27), (3, .int (0 : Int32))]) [2, 1, 0] rfl ?_
    refine whl_B (s0 := (((0 : Int32), x1) : Int32 × Mm)) (g := (fun (q : Int32 × Mm) => q.2)) (gb := (fun (q : Mm) => q)) (Nr := mm_N μ + mc) (Zr := mm_Z μ + ms) (RR := fun (s35 : Int32 × Mm) => ∀ (c35 z35 : Nat), Nz μ s35.2 c35 z35 → c35 ≤ mc ∧ z35 ≤ ms → Rn_X1_findComings G (fun v μ' => v = none ∧ μ' = r) mc ms c35 z35 35 [(0, .ref a0), (2, .int v27), (3, .int s35.1)] [] s35.2) (fun s x hx => t_X1_findComings_L35 hx) ?_ ?_ (Sat_bindK h) (0 + (mm_N x1 - mm_N μ)) (0 + (mm_Z x1 - mm_Z μ)) hN hC
    · intro b35 hb
      obtain ⟨x, h, hx⟩ := hb
      have hk : Gr ((fun (q : Mm) => q) b35) ((fun (q : Mm) => q) b35) := Gr.rfl
      refine bud_le (?_ : Gr _ ((fun (q : Mm) => q) x)) (hB x hx)
      exact Gr.after (t_X1_findComings_J90 h) hk
    · intro s35 K35 hI35 hX35 hB35 h c35 z35 hN hC
      have J84 : ∀ (l3_84 : Int32) (μ_84 : Mm), ∀ (c84 z84 : Nat), Nz μ μ_84 c84 z84 → c84 ≤ mc ∧ z84 ≤ ms → Sat (f_X1_findComings_J84 a0 v27 l3_84 μ_84) K35 → Rn_X1_findComings G (fun v μ' => v = none ∧ μ' = r) mc ms c84 z84 84 [(0, .ref a0), (2, .int v27), (3, .int l3_84)] [] μ_84 := by
        intro l3_84 μ_84 c84 z84 hN hC h
        obtain ⟨v84, e84, h⟩ := Sat_bind h
        refine r_iinc (j := 2) (v := v84) (lv' := [(3, .int v84), (0, .ref a0), (2, .int v27)]) dX1_findComings_84 rfl (iinc_v e84 (by decide)) (by decide) rfl ?_
        refine r_goto 35 dX1_findComings_87 (by decide) ?_
        exact r_sub [1, 2, 0] rfl (hI35 _ (Sat_some h) c84 z84 hN hC)
      refine r_iload_n dX1_findComings_35 2 rfl ?_
      refine r_bipush (v := 12) dX1_findComings_36 (by decide) ?_
      refine r_icmp_ge 90 dX1_findComings_38 (by decide) (fun c38 => ?_) (fun c38 => ?_)
      · have h := Sat_pos c38 h
        have h := hX35 _ (Sat_some h)
        exact r_sub [0, 1] rfl (J90 a0 v27 s35.2 c35 z35 hN hC h)
      · have h := Sat_neg c38 h
        refine r_aload_n dX1_findComings_41 0 rfl ?_
        obtain ⟨x42, e42, h⟩ := Sat_bind h
        refine r_getP fk_X1_11 rfl e42 dX1_findComings_42 ?_
        refine r_iload_n dX1_findComings_45 2 rfl ?_
        obtain ⟨x46, e46, h⟩ := Sat_bind h
        refine r_aaload (Or.inr rfl) e46 dX1_findComings_46 ?_
        obtain ⟨x47, e47, h⟩ := Sat_bind h
        refine r_len e47 dX1_findComings_47 ?_
        refine r_istore (lv' := [(4, .int x47), (0, .ref a0), (2, .int v27), (3, .int s35.1)]) dX1_findComings_48 (by decide) rfl ?_
        refine r_iload_n dX1_findComings_50 2 rfl ?_
        refine r_iload_n dX1_findComings_51 3 rfl ?_
        refine r_ishr dX1_findComings_52 ?_
        refine r_iconst (v := 1) dX1_findComings_53 (by decide) ?_
        refine r_iand dX1_findComings_54 ?_
        refine r_if_eq 84 dX1_findComings_55 (by decide) (fun c55 => ?_) (fun c55 => ?_)
        · have h := Sat_pos c55 h
          exact r_sub [1, 2, 3] rfl (J84 s35.1 s35.2 c35 z35 hN hC h)
        · have h := Sat_neg c55 h
          refine r_iload dX1_findComings_58 0 rfl ?_
          refine r_aload_n dX1_findComings_60 1 rfl ?_
          obtain ⟨x61, e61, h⟩ := Sat_bind h
          refine r_getI fk_X1_43 rfl e61 dX1_findComings_61 ?_
          refine r_icmp_ge 84 dX1_findComings_64 (by decide) (fun c64 => ?_) (fun c64 => ?_)
          · have h := Sat_pos c64 h
            exact r_sub [1, 2, 3] rfl (J84 s35.1 s35.2 c35 z35 hN hC h)
          · have h := Sat_neg c64 h
            refine r_aload_n dX1_findComings_67 1 rfl ?_
            obtain ⟨x68, e68, h⟩ := Sat_bind h
            refine r_getP fk_X1_11 rfl e68 dX1_findComings_68 ?_
            refine r_iload_n dX1_findComings_71 3 rfl ?_
            refine r_iload dX1_findComings_72 0 rfl ?_
            refine r_aload_n dX1_findComings_74 1 rfl ?_
            obtain ⟨x75, e75, h⟩ := Sat_bind h
            refine r_getI fk_X1_43 rfl e75 dX1_findComings_75 ?_
            obtain ⟨x78, e78, h⟩ := Sat_bind h
            refine r_cS [.int x47, .int x75] [.int s35.1, .ref x68] (m_X1_roomFor x47 x75 s35.2 e78) ck_X1_roomFor lk_X1_75 st_X1_roomFor rfl rfl (Nat.le_of_ble_eq_true rfl) ⟨Nat.le_of_ble_eq_true rfl, Nat.le_of_ble_eq_true rfl⟩ hC dX1_findComings_78 ?_
            obtain ⟨n81, e81, h⟩ := Sat_bind h
            have hN := nz_A (by decide) e81 hN
            have hC := bud_of hN (by
              obtain ⟨x, h, hx⟩ := id h
              have hk : Gr (n81.2) (n81.2) := Gr.rfl
              refine bud_le (?_ : Gr _ ((sm (fun (q : Int32 × Mm) => q.2) (fun (q : Mm) => q)) x)) (hB35 x hx)
              obtain ⟨μ83, e83, h⟩ := bd h
              have hk := Gr.after (Gr.of (kq_paP e83)) hk
              exact Gr.after (t_X1_findComings_J84 h) hk)
            refine r_newarray (t := 21) (by decide) rfl e81 ka_21 hC dX1_findComings_81 ?_
            obtain ⟨μ83, e83, h⟩ := Sat_bind h
            refine r_aastore25 e83 dX1_findComings_83 ?_
            have hN := nz_tl (kq_paP e83) hN
            exact r_sub [1, 2, 3] rfl (J84 s35.1 μ83 (c35 + 1) (z35 + (x78).toNatClampNeg) hN hC h)
  · have h := Sat_pos c29 h
    refine r_widen hC.1 hC.2 ?_
    exact r_vreturn rfl (by rw [← Sat_eq h]; exact ⟨rfl, rfl⟩) dX1_findComings_32
theorem dX1_findFitting_0 : decode cX1_findFitting 0 = .ok (.aload_n 0, 1) := by decide +kernel
theorem dX1_findFitting_1 : decode cX1_findFitting 1 = .ok (.getfield 39, 3) := by decide +kernel
theorem dX1_findFitting_4 : decode cX1_findFitting 4 = .ok (.iload_n 1, 1) := by decide +kernel
theorem dX1_findFitting_5 : decode cX1_findFitting 5 = .ok (.invokevirtual 110, 3) := by decide +kernel
theorem dX1_findFitting_8 : decode cX1_findFitting 8 = .ok (.istore_n 2, 1) := by decide +kernel
theorem dX1_findFitting_9 : decode cX1_findFitting 9 = .ok (.iconst 0, 1) := by decide +kernel
theorem dX1_findFitting_10 : decode cX1_findFitting 10 = .ok (.istore_n 3, 1) := by decide +kernel
theorem dX1_findFitting_11 : decode cX1_findFitting 11 = .ok (.iconst 0, 1) := by decide +kernel
theorem dX1_findFitting_12 : decode cX1_findFitting 12 = .ok (.istore 4, 2) := by decide +kernel
theorem dX1_findFitting_14 : decode cX1_findFitting 14 = .ok (.iload 4, 2) := by decide +kernel
theorem dX1_findFitting_16 : decode cX1_findFitting 16 = .ok (.iload_n 2, 1) := by decide +kernel
theorem dX1_findFitting_17 : decode cX1_findFitting 17 = .ok (.if_icmp .ge 51, 3) := by decide +kernel
theorem dX1_findFitting_20 : decode cX1_findFitting 20 = .ok (.iload 4, 2) := by decide +kernel
theorem dX1_findFitting_22 : decode cX1_findFitting 22 = .ok (.aload_n 0, 1) := by decide +kernel
theorem dX1_findFitting_23 : decode cX1_findFitting 23 = .ok (.getfield 22, 3) := by decide +kernel
theorem dX1_findFitting_26 : decode cX1_findFitting 26 = .ok (.arraylength, 1) := by decide +kernel
theorem dX1_findFitting_27 : decode cX1_findFitting 27 = .ok (.if_icmp .ge 41, 3) := by decide +kernel
theorem dX1_findFitting_30 : decode cX1_findFitting 30 = .ok (.aload_n 0, 1) := by decide +kernel
theorem dX1_findFitting_31 : decode cX1_findFitting 31 = .ok (.getfield 22, 3) := by decide +kernel
theorem dX1_findFitting_34 : decode cX1_findFitting 34 = .ok (.iload 4, 2) := by decide +kernel
theorem dX1_findFitting_36 : decode cX1_findFitting 36 = .ok (.aload_n 0, 1) := by decide +kernel
theorem dX1_findFitting_37 : decode cX1_findFitting 37 = .ok (.getfield 39, 3) := by decide +kernel
theorem dX1_findFitting_40 : decode cX1_findFitting 40 = .ok (.iload 4, 2) := by decide +kernel
theorem dX1_findFitting_42 : decode cX1_findFitting 42 = .ok (.iload_n 1, 1) := by decide +kernel
theorem dX1_findFitting_43 : decode cX1_findFitting 43 = .ok (.invokevirtual 114, 3) := by decide +kernel
theorem dX1_findFitting_46 : decode cX1_findFitting 46 = .ok (.iastore, 1) := by decide +kernel
theorem dX1_findFitting_47 : decode cX1_findFitting 47 = .ok (.iload_n 3, 1) := by decide +kernel
theorem dX1_findFitting_48 : decode cX1_findFitting 48 = .ok (.iconst 1, 1) := by decide +kernel
theorem dX1_findFitting_49 : decode cX1_findFitting 49 = .ok (.aload_n 0, 1) := by decide +kernel
theorem dX1_findFitting_50 : decode cX1_findFitting 50 = .ok (.getfield 39, 3) := by decide +kernel
theorem dX1_findFitting_53 : decode cX1_findFitting 53 = .ok (.getfield 117, 3) := by decide +kernel
theorem dX1_findFitting_56 : decode cX1_findFitting 56 = .ok (.iload 4, 2) := by decide +kernel
theorem dX1_findFitting_58 : decode cX1_findFitting 58 = .ok (.iaload, 1) := by decide +kernel
theorem dX1_findFitting_59 : decode cX1_findFitting 59 = .ok (.ishl, 1) := by decide +kernel
theorem dX1_findFitting_60 : decode cX1_findFitting 60 = .ok (.ior, 1) := by decide +kernel
theorem dX1_findFitting_61 : decode cX1_findFitting 61 = .ok (.istore_n 3, 1) := by decide +kernel
theorem dX1_findFitting_62 : decode cX1_findFitting 62 = .ok (.iinc 4 1, 3) := by decide +kernel
theorem dX1_findFitting_65 : decode cX1_findFitting 65 = .ok (.goto (-51), 3) := by decide +kernel
theorem dX1_findFitting_68 : decode cX1_findFitting 68 = .ok (.aload_n 0, 1) := by decide +kernel
theorem dX1_findFitting_69 : decode cX1_findFitting 69 = .ok (.iload_n 3, 1) := by decide +kernel
theorem dX1_findFitting_70 : decode cX1_findFitting 70 = .ok (.invokevirtual 119, 3) := by decide +kernel
theorem dX1_findFitting_73 : decode cX1_findFitting 73 = .ok (.aload_n 0, 1) := by decide +kernel
theorem dX1_findFitting_74 : decode cX1_findFitting 74 = .ok (.iconst 0, 1) := by decide +kernel
theorem dX1_findFitting_75 : decode cX1_findFitting 75 = .ok (.putfield 122, 3) := by decide +kernel
theorem dX1_findFitting_78 : decode cX1_findFitting 78 = .ok (.iconst 0, 1) := by decide +kernel
theorem dX1_findFitting_79 : decode cX1_findFitting 79 = .ok (.istore 4, 2) := by decide +kernel
theorem dX1_findFitting_81 : decode cX1_findFitting 81 = .ok (.iload 4, 2) := by decide +kernel
theorem dX1_findFitting_83 : decode cX1_findFitting 83 = .ok (.aload_n 0, 1) := by decide +kernel
theorem dX1_findFitting_84 : decode cX1_findFitting 84 = .ok (.getfield 43, 3) := by decide +kernel
theorem dX1_findFitting_87 : decode cX1_findFitting 87 = .ok (.if_icmp .ge 50, 3) := by decide +kernel
theorem dX1_findFitting_90 : decode cX1_findFitting 90 = .ok (.iload 4, 2) := by decide +kernel
theorem dX1_findFitting_92 : decode cX1_findFitting 92 = .ok (.aload_n 0, 1) := by decide +kernel
theorem dX1_findFitting_93 : decode cX1_findFitting 93 = .ok (.getfield 28, 3) := by decide +kernel
theorem dX1_findFitting_96 : decode cX1_findFitting 96 = .ok (.arraylength, 1) := by decide +kernel
theorem dX1_findFitting_97 : decode cX1_findFitting 97 = .ok (.if_icmp .ge 40, 3) := by decide +kernel
theorem dX1_findFitting_100 : decode cX1_findFitting 100 = .ok (.aload_n 0, 1) := by decide +kernel
theorem dX1_findFitting_101 : decode cX1_findFitting 101 = .ok (.iload 4, 2) := by decide +kernel
theorem dX1_findFitting_103 : decode cX1_findFitting 103 = .ok (.iload_n 2, 1) := by decide +kernel
theorem dX1_findFitting_104 : decode cX1_findFitting 104 = .ok (.invokevirtual 125, 3) := by decide +kernel
theorem dX1_findFitting_107 : decode cX1_findFitting 107 = .ok (.ifCond .eq 24, 3) := by decide +kernel
theorem dX1_findFitting_110 : decode cX1_findFitting 110 = .ok (.aload_n 0, 1) := by decide +kernel
theorem dX1_findFitting_111 : decode cX1_findFitting 111 = .ok (.getfield 28, 3) := by decide +kernel
theorem dX1_findFitting_114 : decode cX1_findFitting 114 = .ok (.aload_n 0, 1) := by decide +kernel
theorem dX1_findFitting_115 : decode cX1_findFitting 115 = .ok (.getfield 122, 3) := by decide +kernel
theorem dX1_findFitting_118 : decode cX1_findFitting 118 = .ok (.iload 4, 2) := by decide +kernel
theorem dX1_findFitting_120 : decode cX1_findFitting 120 = .ok (.iastore, 1) := by decide +kernel
theorem dX1_findFitting_121 : decode cX1_findFitting 121 = .ok (.aload_n 0, 1) := by decide +kernel
theorem dX1_findFitting_122 : decode cX1_findFitting 122 = .ok (.dup, 1) := by decide +kernel
theorem dX1_findFitting_123 : decode cX1_findFitting 123 = .ok (.getfield 122, 3) := by decide +kernel
theorem dX1_findFitting_126 : decode cX1_findFitting 126 = .ok (.iconst 1, 1) := by decide +kernel
theorem dX1_findFitting_127 : decode cX1_findFitting 127 = .ok (.iadd, 1) := by decide +kernel
theorem dX1_findFitting_128 : decode cX1_findFitting 128 = .ok (.putfield 122, 3) := by decide +kernel
theorem dX1_findFitting_131 : decode cX1_findFitting 131 = .ok (.iinc 4 1, 3) := by decide +kernel
theorem dX1_findFitting_134 : decode cX1_findFitting 134 = .ok (.goto (-53), 3) := by decide +kernel
theorem dX1_findFitting_137 : decode cX1_findFitting 137 = .ok (.return_, 1) := by decide +kernel
noncomputable def f_X1_findFitting_J131 (a0 : Nat) (l2 : Int32) (l4 : Int32) (μ : Mm) : Option ((Int32 × Mm) ⊕ (Mm)) :=
  (some (l4 + (1 : Int32))).bind fun v131 => some (.inl (v131, μ))
noncomputable def f_X1_findFitting_L81 (a0 : Nat) (l2 : Int32) (s81 : Int32 × Mm) : Option ((Int32 × Mm) ⊕ (Mm)) :=
  (gf_I 2 9 a0 s81.2).bind fun x84 => if x84 ≤ s81.1 then some (.inr s81.2) else (gf_P 2 7 a0 s81.2).bind fun x93 => (ga_len x93 s81.2).bind fun x96 => if x96 ≤ s81.1 then some (.inr s81.2) else (f_X1_isFitting a0 s81.1 l2 s81.2).bind fun x104 => if x104 = 0 then f_X1_findFitting_J131 a0 l2 s81.1 s81.2 else (gf_P 2 7 a0 s81.2).bind fun x111 => (gf_I 2 8 a0 s81.2).bind fun x115 => (pa_I x111 x115 s81.1 s81.2).bind fun μ120 => (gf_I 2 8 a0 μ120).bind fun x123 => (pf_I 2 8 a0 (x123 + (1 : Int32)) μ120).bind fun μ128 => f_X1_findFitting_J131 a0 l2 s81.1 μ128
noncomputable def f_X1_findFitting_J68 (a0 : Nat) (l2 : Int32) (l3 : Int32) (μ : Mm) : Option Mm :=
  (f_X1_findComings a0 l3 μ).bind fun x70 => (pf_I 2 8 a0 (0 : Int32) x70).bind fun μ75 => (whl (f_X1_findFitting_L81 a0 l2) ((0 : Int32), μ75)).bind (fun b81 => some b81)
noncomputable def f_X1_findFitting_L14 (a0 : Nat) (l1 : Int32) (l2 : Int32) (s14 : Int32 × Int32 × Mm) : Option ((Int32 × Int32 × Mm) ⊕ (Int32 × Mm)) :=
  if l2 ≤ s14.2.1 then some (.inr (s14.1, s14.2.2)) else (gf_P 2 4 a0 s14.2.2).bind fun x23 => (ga_len x23 s14.2.2).bind fun x26 => if x26 ≤ s14.2.1 then some (.inr (s14.1, s14.2.2)) else (gf_P 2 4 a0 s14.2.2).bind fun x31 => (gf_P 2 1 a0 s14.2.2).bind fun x37 => (f_X0_knewAt x37 s14.2.1 l1 s14.2.2).bind fun x43 => (pa_I x31 s14.2.1 x43 s14.2.2).bind fun μ46 => (gf_P 2 1 a0 μ46).bind fun x50 => (gf_P 1 3 x50 μ46).bind fun x53 => (ga_I x53 s14.2.1 μ46).bind fun x58 => (some (s14.1 ||| ((1 : Int32) <<< (x58 &&& 31)))).bind fun v61 => (some (s14.2.1 + (1 : Int32))).bind fun v62 => some (.inl (v61, v62, μ46))
noncomputable def f_X1_findFitting (a0 : Nat) (l1 : Int32) (μ : Mm) : Option Mm :=
  if (mm_K μ a0).1 = 2 then (gf_P 2 1 a0 μ).bind fun x1 => (f_X0_knownAt x1 l1 μ).bind fun x5 => (whl (f_X1_findFitting_L14 a0 l1 x5) ((0 : Int32), (0 : Int32), μ)).bind (fun b14 => f_X1_findFitting_J68 a0 x5 b14.1 b14.2) else none
abbrev Rn_X1_findFitting (G : Gv) (Q : Option Value → Mm → Prop) (mc ms c s : Nat) (pc : Nat) (lv : List (Nat × Value)) (st : List Value) (μ : Mm) : Prop := Rn G RX1 cX1_findFitting 5 none "findFitting" (rmd 15 mc ms) (Zm G mc ms Q) c s pc lv st μ
theorem t_X1_findFitting_J131 {a0 : Nat} {l2 : Int32} {l4 : Int32} {μ : Mm} {x : ((Int32 × Mm) ⊕ (Mm))} (h : f_X1_findFitting_J131 a0 l2 l4 μ = some x) : Gr μ ((sm (fun (q : Int32 × Mm) => q.2) (fun (q : Mm) => q)) x) := by
  have hk : Gr μ μ := Gr.rfl
  obtain ⟨v131, e131, h⟩ := bd h
  have h := Option.some.inj h
  subst h
  exact hk
theorem t_X1_findFitting_L81 {a0 : Nat} {l2 : Int32} {s81 : Int32 × Mm} {x : ((Int32 × Mm) ⊕ (Mm))} (h : f_X1_findFitting_L81 a0 l2 s81 = some x) : Gr ((fun (q : Int32 × Mm) => q.2) s81) (sm (fun (q : Int32 × Mm) => q.2) (fun (q : Mm) => q) x) := by
  have hk : Gr (s81.2) (s81.2) := Gr.rfl
  obtain ⟨x84, e84, h⟩ := bd h
  rcases ite_e h with ⟨_, h⟩ | ⟨_, h⟩
  · have h := Option.some.inj h
    subst h
    exact hk
  · obtain ⟨x93, e93, h⟩ := bd h
    obtain ⟨x96, e96, h⟩ := bd h
    rcases ite_e h with ⟨_, h⟩ | ⟨_, h⟩
    · have h := Option.some.inj h
      subst h
      exact hk
    · obtain ⟨x104, e104, h⟩ := bd h
      rcases ite_e h with ⟨_, h⟩ | ⟨_, h⟩
      · exact Gr.after (t_X1_findFitting_J131 h) hk
      · obtain ⟨x111, e111, h⟩ := bd h
        obtain ⟨x115, e115, h⟩ := bd h
        obtain ⟨μ120, e120, h⟩ := bd h
        have hk := Gr.after (Gr.of (kq_paI e120)) hk
        obtain ⟨x123, e123, h⟩ := bd h
        obtain ⟨μ128, e128, h⟩ := bd h
        have hk := Gr.after (Gr.of (kq_pfI e128)) hk
        exact Gr.after (t_X1_findFitting_J131 h) hk
theorem t_X1_findFitting_W81 {a0 : Nat} {l2 : Int32} {s81 : Int32 × Mm} {b : Mm} (h : whl (f_X1_findFitting_L81 a0 l2) s81 = some b) : Gr ((fun (q : Int32 × Mm) => q.2) s81) ((fun (q : Mm) => q) b) :=
  whl_gr (g := (fun (q : Int32 × Mm) => q.2)) (gb := (fun (q : Mm) => q)) (fun s x hx => t_X1_findFitting_L81 hx) h
theorem t_X1_findFitting_J68 {a0 : Nat} {l2 : Int32} {l3 : Int32} {μ : Mm} {x : Mm} (h : f_X1_findFitting_J68 a0 l2 l3 μ = some x) : Gr μ ((fun (q : Mm) => q) x) := by
  have hk : Gr μ μ := Gr.rfl
  obtain ⟨x70, e70, h⟩ := bd h
  have hk := Gr.after (t_X1_findComings e70) hk
  obtain ⟨μ75, e75, h⟩ := bd h
  have hk := Gr.after (Gr.of (kq_pfI e75)) hk
  obtain ⟨b81, w81, h⟩ := bd h
  have hk := Gr.after (t_X1_findFitting_W81 w81) hk
  have h := Option.some.inj h
  subst h
  exact hk
theorem t_X1_findFitting_L14 {a0 : Nat} {l1 : Int32} {l2 : Int32} {s14 : Int32 × Int32 × Mm} {x : ((Int32 × Int32 × Mm) ⊕ (Int32 × Mm))} (h : f_X1_findFitting_L14 a0 l1 l2 s14 = some x) : Gr ((fun (q : Int32 × Int32 × Mm) => q.2.2) s14) (sm (fun (q : Int32 × Int32 × Mm) => q.2.2) (fun (q : Int32 × Mm) => q.2) x) := by
  have hk : Gr (s14.2.2) (s14.2.2) := Gr.rfl
  rcases ite_e h with ⟨_, h⟩ | ⟨_, h⟩
  · have h := Option.some.inj h
    subst h
    exact hk
  · obtain ⟨x23, e23, h⟩ := bd h
    obtain ⟨x26, e26, h⟩ := bd h
    rcases ite_e h with ⟨_, h⟩ | ⟨_, h⟩
    · have h := Option.some.inj h
      subst h
      exact hk
    · obtain ⟨x31, e31, h⟩ := bd h
      obtain ⟨x37, e37, h⟩ := bd h
      obtain ⟨x43, e43, h⟩ := bd h
      obtain ⟨μ46, e46, h⟩ := bd h
      have hk := Gr.after (Gr.of (kq_paI e46)) hk
      obtain ⟨x50, e50, h⟩ := bd h
      obtain ⟨x53, e53, h⟩ := bd h
      obtain ⟨x58, e58, h⟩ := bd h
      obtain ⟨v61, e61, h⟩ := bd h
      obtain ⟨v62, e62, h⟩ := bd h
      have h := Option.some.inj h
      subst h
      exact hk
theorem t_X1_findFitting_W14 {a0 : Nat} {l1 : Int32} {l2 : Int32} {s14 : Int32 × Int32 × Mm} {b : Int32 × Mm} (h : whl (f_X1_findFitting_L14 a0 l1 l2) s14 = some b) : Gr ((fun (q : Int32 × Int32 × Mm) => q.2.2) s14) ((fun (q : Int32 × Mm) => q.2) b) :=
  whl_gr (g := (fun (q : Int32 × Int32 × Mm) => q.2.2)) (gb := (fun (q : Int32 × Mm) => q.2)) (fun s x hx => t_X1_findFitting_L14 hx) h
theorem t_X1_findFitting {a0 : Nat} {l1 : Int32} {μ : Mm} {x : Mm} (h : f_X1_findFitting a0 l1 μ = some x) : Gr μ ((fun (q : Mm) => q) x) := by
  have hk : Gr μ μ := Gr.rfl
  obtain ⟨_, h⟩ := ite_p h
  obtain ⟨x1, e1, h⟩ := bd h
  obtain ⟨x5, e5, h⟩ := bd h
  obtain ⟨b14, w14, h⟩ := bd h
  have hk := Gr.after (t_X1_findFitting_W14 w14) hk
  exact Gr.after (t_X1_findFitting_J68 h) hk
set_option maxRecDepth 100000 in
set_option maxHeartbeats 4000000 in
theorem m_X1_findFitting {G : Gv} (a0 : Nat) (l1 : Int32) (μ : Mm) {r : Mm} (hx : f_X1_findFitting a0 l1 μ = some r) (mc ms : Nat) (hn : mm_N r ≤ mm_N μ + mc) (hz : mm_Z r ≤ mm_Z μ + ms) : Mt G yX1_findFitting cX1_findFitting 5 none 15 mc ms [.ref a0, .int l1] μ (fun v μ' => v = none ∧ μ' = r) := by
  have hN : Nz μ μ 0 0 := ⟨rfl, rfl⟩
  have hC : 0 ≤ mc ∧ 0 ≤ ms := ⟨Nat.zero_le _, Nat.zero_le _⟩
  have hB : ∀ x : Mm, x = r → mm_N ((fun (q : Mm) => q) x) ≤ mm_N μ + mc ∧ mm_Z ((fun (q : Mm) => q) x) ≤ mm_Z μ + ms := fun x e => by subst e; exact ⟨hn, hz⟩
  refine Mt.of (by decide) (Nat.le_of_ble_eq_true rfl) ?_
  show Rn_X1_findFitting G (fun v μ' => v = none ∧ μ' = r) mc ms 0 0 0 [(0, .ref a0), (1, .int l1)] [] μ
  obtain ⟨_, h⟩ := Sat_ifp (show Sat (f_X1_findFitting a0 l1 μ) (fun x => x = r) from ⟨_, hx, rfl⟩)
  have J68 : ∀ (a0_68 : Nat) (l2_68 : Int32) (l3_68 : Int32) (μ_68 : Mm), ∀ (c68 z68 : Nat), Nz μ μ_68 c68 z68 → c68 ≤ mc ∧ z68 ≤ ms → Sat (f_X1_findFitting_J68 a0_68 l2_68 l3_68 μ_68) (fun x => x = r) → Rn_X1_findFitting G (fun v μ' => v = none ∧ μ' = r) mc ms c68 z68 68 [(0, .ref a0_68), (2, .int l2_68), (3, .int l3_68)] [] μ_68 := by
    intro a0_68 l2_68 l3_68 μ_68 c68 z68 hN hC h
    refine r_aload_n dX1_findFitting_68 0 rfl ?_
    refine r_iload_n dX1_findFitting_69 2 rfl ?_
    obtain ⟨x70, e70, h⟩ := Sat_bind h
    have hN := nz_call (t_X1_findComings e70) hN
    have hC := bud_of hN (by
      obtain ⟨x, h, hx⟩ := id h
      have hk : Gr (x70) (x70) := Gr.rfl
      refine bud_le (?_ : Gr _ ((fun (q : Mm) => q) x)) (hB x hx)
      obtain ⟨μ75, e75, h⟩ := bd h
      have hk := Gr.after (Gr.of (kq_pfI e75)) hk
      obtain ⟨b81, w81, h⟩ := bd h
      have hk := Gr.after (t_X1_findFitting_W81 w81) hk
      have h := Option.some.inj h
      subst h
      exact hk)
    refine r_bV (t := 2) [.int l3_68] [] (m_X1_findComings a0_68 l3_68 μ_68 e70 (mm_N x70 - mm_N μ_68) (mm_Z x70 - mm_Z μ_68) gr_N gr_Z) ck_X1_findComings lk_X1_119 in_X1_findComings se_X1_findComings (kd_of e70) ⟨rfl, by decide, by decide⟩ rfl rfl (Nat.le_of_ble_eq_true rfl) ⟨Nat.le_of_ble_eq_true rfl, Nat.le_of_ble_eq_true rfl⟩ hC dX1_findFitting_70 ?_
    refine r_aload_n dX1_findFitting_73 0 rfl ?_
    refine r_iconst (v := 0) dX1_findFitting_74 (by decide) ?_
    obtain ⟨μ75, e75, h⟩ := Sat_bind h
    refine r_putI fk_X1_122 rfl rfl e75 dX1_findFitting_75 ?_
    have hN := nz_tl (kq_pfI e75) hN
    refine r_iconst (v := 0) dX1_findFitting_78 (by decide) ?_
    refine r_istore (lv' := [(4, .int (0 : Int32)), (0, .ref a0_68), (2, .int l2_68), (3, .int l3_68)]) dX1_findFitting_79 (by decide) rfl ?_
    refine r_sub (lv' := [(0, .ref a0_68), (2, .int l2_68), (4, .int (0 : Int32))]) [1, 2, 0] rfl ?_
    refine whl_B (s0 := (((0 : Int32), μ75) : Int32 × Mm)) (g := (fun (q : Int32 × Mm) => q.2)) (gb := (fun (q : Mm) => q)) (Nr := mm_N μ + mc) (Zr := mm_Z μ + ms) (RR := fun (s81 : Int32 × Mm) => ∀ (c81 z81 : Nat), Nz μ s81.2 c81 z81 → c81 ≤ mc ∧ z81 ≤ ms → Rn_X1_findFitting G (fun v μ' => v = none ∧ μ' = r) mc ms c81 z81 81 [(0, .ref a0_68), (2, .int l2_68), (4, .int s81.1)] [] s81.2) (fun s x hx => t_X1_findFitting_L81 hx) ?_ ?_ (Sat_bindK h) (c68 + (mm_N x70 - mm_N μ_68)) (z68 + (mm_Z x70 - mm_Z μ_68)) hN hC
    · intro b81 hb
      obtain ⟨x, h, hx⟩ := hb
      have hk : Gr ((fun (q : Mm) => q) b81) ((fun (q : Mm) => q) b81) := Gr.rfl
      refine bud_le (?_ : Gr _ ((fun (q : Mm) => q) x)) (hB x hx)
      have h := Option.some.inj h
      subst h
      exact hk
    · intro s81 K81 hI81 hX81 hB81 h c81 z81 hN hC
      have J131 : ∀ (l4_131 : Int32) (μ_131 : Mm), ∀ (c131 z131 : Nat), Nz μ μ_131 c131 z131 → c131 ≤ mc ∧ z131 ≤ ms → Sat (f_X1_findFitting_J131 a0_68 l2_68 l4_131 μ_131) K81 → Rn_X1_findFitting G (fun v μ' => v = none ∧ μ' = r) mc ms c131 z131 131 [(0, .ref a0_68), (2, .int l2_68), (4, .int l4_131)] [] μ_131 := by
        intro l4_131 μ_131 c131 z131 hN hC h
        obtain ⟨v131, e131, h⟩ := Sat_bind h
        refine r_iinc (j := 2) (v := v131) (lv' := [(4, .int v131), (0, .ref a0_68), (2, .int l2_68)]) dX1_findFitting_131 rfl (iinc_v e131 (by decide)) (by decide) rfl ?_
        refine r_goto 81 dX1_findFitting_134 (by decide) ?_
        exact r_sub [1, 2, 0] rfl (hI81 _ (Sat_some h) c131 z131 hN hC)
      refine r_iload dX1_findFitting_81 2 rfl ?_
      refine r_aload_n dX1_findFitting_83 0 rfl ?_
      obtain ⟨x84, e84, h⟩ := Sat_bind h
      refine r_getI fk_X1_43 rfl e84 dX1_findFitting_84 ?_
      refine r_icmp_ge 137 dX1_findFitting_87 (by decide) (fun c87 => ?_) (fun c87 => ?_)
      · have h := Sat_pos c87 h
        have h := hX81 _ (Sat_some h)
        refine r_widen hC.1 hC.2 ?_
        exact r_vreturn rfl (by rw [← Sat_eq h]; exact ⟨rfl, rfl⟩) dX1_findFitting_137
      · have h := Sat_neg c87 h
        refine r_iload dX1_findFitting_90 2 rfl ?_
        refine r_aload_n dX1_findFitting_92 0 rfl ?_
        obtain ⟨x93, e93, h⟩ := Sat_bind h
        refine r_getP fk_X1_28 rfl e93 dX1_findFitting_93 ?_
        obtain ⟨x96, e96, h⟩ := Sat_bind h
        refine r_len e96 dX1_findFitting_96 ?_
        refine r_icmp_ge 137 dX1_findFitting_97 (by decide) (fun c97 => ?_) (fun c97 => ?_)
        · have h := Sat_pos c97 h
          have h := hX81 _ (Sat_some h)
          refine r_widen hC.1 hC.2 ?_
          exact r_vreturn rfl (by rw [← Sat_eq h]; exact ⟨rfl, rfl⟩) dX1_findFitting_137
        · have h := Sat_neg c97 h
          refine r_aload_n dX1_findFitting_100 0 rfl ?_
          refine r_iload dX1_findFitting_101 2 rfl ?_
          refine r_iload_n dX1_findFitting_103 1 rfl ?_
          obtain ⟨x104, e104, h⟩ := Sat_bind h
          refine r_cV (t := 2) [.int s81.1, .int l2_68] [] (m_X1_isFitting a0_68 s81.1 l2_68 s81.2 e104) ck_X1_isFitting lk_X1_125 in_X1_isFitting se_X1_isFitting (kd_of e104) ⟨rfl, by decide, by decide⟩ rfl rfl (Nat.le_of_ble_eq_true rfl) ⟨Nat.le_of_ble_eq_true rfl, Nat.le_of_ble_eq_true rfl⟩ hC dX1_findFitting_104 ?_
          refine r_if_eq 131 dX1_findFitting_107 (by decide) (fun c107 => ?_) (fun c107 => ?_)
          · have h := Sat_pos c107 h
            exact r_sub [0, 1, 2] rfl (J131 s81.1 s81.2 c81 z81 hN hC h)
          · have h := Sat_neg c107 h
            refine r_aload_n dX1_findFitting_110 0 rfl ?_
            obtain ⟨x111, e111, h⟩ := Sat_bind h
            refine r_getP fk_X1_28 rfl e111 dX1_findFitting_111 ?_
            refine r_aload_n dX1_findFitting_114 0 rfl ?_
            obtain ⟨x115, e115, h⟩ := Sat_bind h
            refine r_getI fk_X1_122 rfl e115 dX1_findFitting_115 ?_
            refine r_iload dX1_findFitting_118 2 rfl ?_
            obtain ⟨μ120, e120, h⟩ := Sat_bind h
            refine r_iastore e120 dX1_findFitting_120 ?_
            have hN := nz_tl (kq_paI e120) hN
            refine r_aload_n dX1_findFitting_121 0 rfl ?_
            refine r_dup dX1_findFitting_122 rfl ?_
            obtain ⟨x123, e123, h⟩ := Sat_bind h
            refine r_getI fk_X1_122 rfl e123 dX1_findFitting_123 ?_
            refine r_iconst (v := 1) dX1_findFitting_126 (by decide) ?_
            refine r_iadd dX1_findFitting_127 ?_
            obtain ⟨μ128, e128, h⟩ := Sat_bind h
            refine r_putI fk_X1_122 rfl rfl e128 dX1_findFitting_128 ?_
            have hN := nz_tl (kq_pfI e128) hN
            exact r_sub [0, 1, 2] rfl (J131 s81.1 μ128 c81 z81 hN hC h)
  refine r_aload_n dX1_findFitting_0 0 rfl ?_
  obtain ⟨x1, e1, h⟩ := Sat_bind h
  refine r_getP fk_X1_39 rfl e1 dX1_findFitting_1 ?_
  refine r_iload_n dX1_findFitting_4 1 rfl ?_
  obtain ⟨x5, e5, h⟩ := Sat_bind h
  refine r_cV (t := 1) [.int l1] [] (m_X0_knownAt x1 l1 μ e5) ck_X0_knownAt lk_X1_110 in_X0_knownAt se_X0_knownAt (kd_of e5) ⟨rfl, by decide, by decide⟩ rfl rfl (Nat.le_of_ble_eq_true rfl) ⟨Nat.le_of_ble_eq_true rfl, Nat.le_of_ble_eq_true rfl⟩ hC dX1_findFitting_5 ?_
  refine r_istore_n (lv' := [(2, .int x5), (0, .ref a0), (1, .int l1)]) dX1_findFitting_8 rfl (by decide) rfl ?_
  refine r_iconst (v := 0) dX1_findFitting_9 (by decide) ?_
  refine r_istore_n (lv' := [(3, .int (0 : Int32)), (2, .int x5), (0, .ref a0), (1, .int l1)]) dX1_findFitting_10 rfl (by decide) rfl ?_
  refine r_iconst (v := 0) dX1_findFitting_11 (by decide) ?_
  refine r_istore (lv' := [(4, .int (0 : Int32)), (3, .int (0 : Int32)), (2, .int x5), (0, .ref a0), (1, .int l1)]) dX1_findFitting_12 (by decide) rfl ?_
  refine r_sub (lv' := [(0, .ref a0), (1, .int l1), (2, .int x5), (3, .int (0 : Int32)), (4, .int (0 : Int32))]) [3, 4, 2, 1, 0] rfl ?_
  refine whl_B (s0 := (((0 : Int32), (0 : Int32), μ) : Int32 × Int32 × Mm)) (g := (fun (q : Int32 × Int32 × Mm) => q.2.2)) (gb := (fun (q : Int32 × Mm) => q.2)) (Nr := mm_N μ + mc) (Zr := mm_Z μ + ms) (RR := fun (s14 : Int32 × Int32 × Mm) => ∀ (c14 z14 : Nat), Nz μ s14.2.2 c14 z14 → c14 ≤ mc ∧ z14 ≤ ms → Rn_X1_findFitting G (fun v μ' => v = none ∧ μ' = r) mc ms c14 z14 14 [(0, .ref a0), (1, .int l1), (2, .int x5), (3, .int s14.1), (4, .int s14.2.1)] [] s14.2.2) (fun s x hx => t_X1_findFitting_L14 hx) ?_ ?_ (Sat_bindK h) 0 0 hN hC
  · intro b14 hb
    obtain ⟨x, h, hx⟩ := hb
    have hk : Gr ((fun (q : Int32 × Mm) => q.2) b14) ((fun (q : Int32 × Mm) => q.2) b14) := Gr.rfl
    refine bud_le (?_ : Gr _ ((fun (q : Mm) => q) x)) (hB x hx)
    exact Gr.after (t_X1_findFitting_J68 h) hk
  · intro s14 K14 hI14 hX14 hB14 h c14 z14 hN hC
    refine r_iload dX1_findFitting_14 4 rfl ?_
    refine r_iload_n dX1_findFitting_16 2 rfl ?_
    refine r_icmp_ge 68 dX1_findFitting_17 (by decide) (fun c17 => ?_) (fun c17 => ?_)
    · have h := Sat_pos c17 h
      have h := hX14 _ (Sat_some h)
      exact r_sub [0, 2, 3] rfl (J68 a0 x5 s14.1 s14.2.2 c14 z14 hN hC h)
    · have h := Sat_neg c17 h
      refine r_iload dX1_findFitting_20 4 rfl ?_
      refine r_aload_n dX1_findFitting_22 0 rfl ?_
      obtain ⟨x23, e23, h⟩ := Sat_bind h
      refine r_getP fk_X1_22 rfl e23 dX1_findFitting_23 ?_
      obtain ⟨x26, e26, h⟩ := Sat_bind h
      refine r_len e26 dX1_findFitting_26 ?_
      refine r_icmp_ge 68 dX1_findFitting_27 (by decide) (fun c27 => ?_) (fun c27 => ?_)
      · have h := Sat_pos c27 h
        have h := hX14 _ (Sat_some h)
        exact r_sub [0, 2, 3] rfl (J68 a0 x5 s14.1 s14.2.2 c14 z14 hN hC h)
      · have h := Sat_neg c27 h
        refine r_aload_n dX1_findFitting_30 0 rfl ?_
        obtain ⟨x31, e31, h⟩ := Sat_bind h
        refine r_getP fk_X1_22 rfl e31 dX1_findFitting_31 ?_
        refine r_iload dX1_findFitting_34 4 rfl ?_
        refine r_aload_n dX1_findFitting_36 0 rfl ?_
        obtain ⟨x37, e37, h⟩ := Sat_bind h
        refine r_getP fk_X1_39 rfl e37 dX1_findFitting_37 ?_
        refine r_iload dX1_findFitting_40 4 rfl ?_
        refine r_iload_n dX1_findFitting_42 1 rfl ?_
        obtain ⟨x43, e43, h⟩ := Sat_bind h
        refine r_cV (t := 1) [.int s14.2.1, .int l1] [.int s14.2.1, .ref x31] (m_X0_knewAt x37 s14.2.1 l1 s14.2.2 e43) ck_X0_knewAt lk_X1_114 in_X0_knewAt se_X0_knewAt (kd_of e43) ⟨rfl, by decide, by decide⟩ rfl rfl (Nat.le_of_ble_eq_true rfl) ⟨Nat.le_of_ble_eq_true rfl, Nat.le_of_ble_eq_true rfl⟩ hC dX1_findFitting_43 ?_
        obtain ⟨μ46, e46, h⟩ := Sat_bind h
        refine r_iastore e46 dX1_findFitting_46 ?_
        have hN := nz_tl (kq_paI e46) hN
        refine r_iload_n dX1_findFitting_47 3 rfl ?_
        refine r_iconst (v := 1) dX1_findFitting_48 (by decide) ?_
        refine r_aload_n dX1_findFitting_49 0 rfl ?_
        obtain ⟨x50, e50, h⟩ := Sat_bind h
        refine r_getP fk_X1_39 rfl e50 dX1_findFitting_50 ?_
        obtain ⟨x53, e53, h⟩ := Sat_bind h
        refine r_getP fk_X1_117 rfl e53 dX1_findFitting_53 ?_
        refine r_iload dX1_findFitting_56 4 rfl ?_
        obtain ⟨x58, e58, h⟩ := Sat_bind h
        refine r_iaload e58 dX1_findFitting_58 ?_
        refine r_ishl dX1_findFitting_59 ?_
        refine r_ior dX1_findFitting_60 ?_
        obtain ⟨v61, e61, h⟩ := Sat_bind h
        refine r_topi (Option.some.inj e61) ?_
        refine r_istore_n (lv' := [(3, .int v61), (0, .ref a0), (1, .int l1), (2, .int x5), (4, .int s14.2.1)]) dX1_findFitting_61 rfl (by decide) rfl ?_
        obtain ⟨v62, e62, h⟩ := Sat_bind h
        refine r_iinc (j := 4) (v := v62) (lv' := [(4, .int v62), (3, .int v61), (0, .ref a0), (1, .int l1), (2, .int x5)]) dX1_findFitting_62 rfl (iinc_v e62 (by decide)) (by decide) rfl ?_
        refine r_goto 14 dX1_findFitting_65 (by decide) ?_
        exact r_sub [2, 3, 4, 1, 0] rfl (hI14 _ (Sat_some h) c14 z14 hN hC)
theorem dX1_choose_0 : decode cX1_choose 0 = .ok (.aload_n 0, 1) := by decide +kernel
theorem dX1_choose_1 : decode cX1_choose 1 = .ok (.getfield 50, 3) := by decide +kernel
theorem dX1_choose_4 : decode cX1_choose 4 = .ok (.ifCond .eq 4, 3) := by decide +kernel
theorem dX1_choose_7 : decode cX1_choose 7 = .ok (.return_, 1) := by decide +kernel
theorem dX1_choose_8 : decode cX1_choose 8 = .ok (.aload_n 0, 1) := by decide +kernel
theorem dX1_choose_9 : decode cX1_choose 9 = .ok (.iconst 1, 1) := by decide +kernel
theorem dX1_choose_10 : decode cX1_choose 10 = .ok (.putfield 50, 3) := by decide +kernel
theorem dX1_choose_13 : decode cX1_choose 13 = .ok (.aload_n 0, 1) := by decide +kernel
theorem dX1_choose_14 : decode cX1_choose 14 = .ok (.iconst (-1), 1) := by decide +kernel
theorem dX1_choose_15 : decode cX1_choose 15 = .ok (.putfield 164, 3) := by decide +kernel
theorem dX1_choose_18 : decode cX1_choose 18 = .ok (.aload_n 0, 1) := by decide +kernel
theorem dX1_choose_19 : decode cX1_choose 19 = .ok (.iconst (-1), 1) := by decide +kernel
theorem dX1_choose_20 : decode cX1_choose 20 = .ok (.putfield 167, 3) := by decide +kernel
theorem dX1_choose_23 : decode cX1_choose 23 = .ok (.aload_n 0, 1) := by decide +kernel
theorem dX1_choose_24 : decode cX1_choose 24 = .ok (.iconst (-1), 1) := by decide +kernel
theorem dX1_choose_25 : decode cX1_choose 25 = .ok (.putfield 170, 3) := by decide +kernel
theorem dX1_choose_28 : decode cX1_choose 28 = .ok (.aload_n 0, 1) := by decide +kernel
theorem dX1_choose_29 : decode cX1_choose 29 = .ok (.sipush 4095, 3) := by decide +kernel
theorem dX1_choose_32 : decode cX1_choose 32 = .ok (.invokevirtual 119, 3) := by decide +kernel
theorem dX1_choose_35 : decode cX1_choose 35 = .ok (.aload_n 0, 1) := by decide +kernel
theorem dX1_choose_36 : decode cX1_choose 36 = .ok (.iload_n 1, 1) := by decide +kernel
theorem dX1_choose_37 : decode cX1_choose 37 = .ok (.invokevirtual 173, 3) := by decide +kernel
theorem dX1_choose_40 : decode cX1_choose 40 = .ok (.aload_n 0, 1) := by decide +kernel
theorem dX1_choose_41 : decode cX1_choose 41 = .ok (.getfield 122, 3) := by decide +kernel
theorem dX1_choose_44 : decode cX1_choose 44 = .ok (.istore_n 2, 1) := by decide +kernel
theorem dX1_choose_45 : decode cX1_choose 45 = .ok (.iconst 0, 1) := by decide +kernel
theorem dX1_choose_46 : decode cX1_choose 46 = .ok (.istore_n 3, 1) := by decide +kernel
theorem dX1_choose_47 : decode cX1_choose 47 = .ok (.iload_n 3, 1) := by decide +kernel
theorem dX1_choose_48 : decode cX1_choose 48 = .ok (.aload_n 0, 1) := by decide +kernel
theorem dX1_choose_49 : decode cX1_choose 49 = .ok (.getfield 31, 3) := by decide +kernel
theorem dX1_choose_52 : decode cX1_choose 52 = .ok (.getfield 149, 3) := by decide +kernel
theorem dX1_choose_55 : decode cX1_choose 55 = .ok (.if_icmp .ge 42, 3) := by decide +kernel
theorem dX1_choose_58 : decode cX1_choose 58 = .ok (.iconst 0, 1) := by decide +kernel
theorem dX1_choose_59 : decode cX1_choose 59 = .ok (.istore 4, 2) := by decide +kernel
theorem dX1_choose_61 : decode cX1_choose 61 = .ok (.iload 4, 2) := by decide +kernel
theorem dX1_choose_63 : decode cX1_choose 63 = .ok (.aload_n 0, 1) := by decide +kernel
theorem dX1_choose_64 : decode cX1_choose 64 = .ok (.getfield 31, 3) := by decide +kernel
theorem dX1_choose_67 : decode cX1_choose 67 = .ok (.getfield 85, 3) := by decide +kernel
theorem dX1_choose_70 : decode cX1_choose 70 = .ok (.getfield 89, 3) := by decide +kernel
theorem dX1_choose_73 : decode cX1_choose 73 = .ok (.if_icmp .ge 18, 3) := by decide +kernel
theorem dX1_choose_76 : decode cX1_choose 76 = .ok (.aload_n 0, 1) := by decide +kernel
theorem dX1_choose_77 : decode cX1_choose 77 = .ok (.iload_n 3, 1) := by decide +kernel
theorem dX1_choose_78 : decode cX1_choose 78 = .ok (.iload 4, 2) := by decide +kernel
theorem dX1_choose_80 : decode cX1_choose 80 = .ok (.iload_n 2, 1) := by decide +kernel
theorem dX1_choose_81 : decode cX1_choose 81 = .ok (.invokevirtual 176, 3) := by decide +kernel
theorem dX1_choose_84 : decode cX1_choose 84 = .ok (.istore_n 2, 1) := by decide +kernel
theorem dX1_choose_85 : decode cX1_choose 85 = .ok (.iinc 4 1, 3) := by decide +kernel
theorem dX1_choose_88 : decode cX1_choose 88 = .ok (.goto (-27), 3) := by decide +kernel
theorem dX1_choose_91 : decode cX1_choose 91 = .ok (.iinc 3 1, 3) := by decide +kernel
theorem dX1_choose_94 : decode cX1_choose 94 = .ok (.goto (-47), 3) := by decide +kernel
theorem dX1_choose_97 : decode cX1_choose 97 = .ok (.return_, 1) := by decide +kernel
noncomputable def f_X1_choose_J91 (a0 : Nat) (l2 : Int32) (l3 : Int32) (μ : Mm) : Option ((Int32 × Int32 × Mm) ⊕ (Mm)) :=
  (some (l3 + (1 : Int32))).bind fun v91 => some (.inl (l2, v91, μ))
noncomputable def f_X1_choose_L61 (a0 : Nat) (l3 : Int32) (s61 : Int32 × Int32 × Mm) : Option ((Int32 × Int32 × Mm) ⊕ (Int32 × Mm)) :=
  (gf_P 2 5 a0 s61.2.2).bind fun x64 => (gf_P 8 3 x64 s61.2.2).bind fun x67 => (gf_I 3 1 x67 s61.2.2).bind fun x70 => if x70 ≤ s61.2.1 then some (.inr (s61.1, s61.2.2)) else (f_X1_chooseDay a0 l3 s61.2.1 s61.1 s61.2.2).bind fun x81 => (some (s61.2.1 + (1 : Int32))).bind fun v85 => some (.inl (x81.1, v85, x81.2))
noncomputable def f_X1_choose_L47 (a0 : Nat) (s47 : Int32 × Int32 × Mm) : Option ((Int32 × Int32 × Mm) ⊕ (Mm)) :=
  (gf_P 2 5 a0 s47.2.2).bind fun x49 => (gf_I 8 9 x49 s47.2.2).bind fun x52 => if x52 ≤ s47.2.1 then some (.inr s47.2.2) else (whl (f_X1_choose_L61 a0 s47.2.1) (s47.1, (0 : Int32), s47.2.2)).bind (fun b61 => f_X1_choose_J91 a0 b61.1 s47.2.1 b61.2)
noncomputable def f_X1_choose (a0 : Nat) (l1 : Int32) (μ : Mm) : Option Mm :=
  if (mm_K μ a0).1 = 2 then (gf_I 2 11 a0 μ).bind fun x1 => if x1 = 0 then (pf_Z 2 11 a0 (1 : Int32) μ).bind fun μ10 => (pf_I 2 12 a0 (-1 : Int32) μ10).bind fun μ15 => (pf_I 2 13 a0 (-1 : Int32) μ15).bind fun μ20 => (pf_I 2 14 a0 (-1 : Int32) μ20).bind fun μ25 => (f_X1_findComings a0 (4095 : Int32) μ25).bind fun x32 => (f_X1_findFitting a0 l1 x32).bind fun x37 => (gf_I 2 8 a0 x37).bind fun x41 => (whl (f_X1_choose_L47 a0) (x41, (0 : Int32), x37)).bind (fun b47 => some b47) else some μ else none
abbrev Rn_X1_choose (G : Gv) (Q : Option Value → Mm → Prop) (mc ms c s : Nat) (pc : Nat) (lv : List (Nat × Value)) (st : List Value) (μ : Mm) : Prop := Rn G RX1 cX1_choose 5 none "choose" (rmd 16 mc ms) (Zm G mc ms Q) c s pc lv st μ
theorem t_X1_choose_J91 {a0 : Nat} {l2 : Int32} {l3 : Int32} {μ : Mm} {x : ((Int32 × Int32 × Mm) ⊕ (Mm))} (h : f_X1_choose_J91 a0 l2 l3 μ = some x) : Gr μ ((sm (fun (q : Int32 × Int32 × Mm) => q.2.2) (fun (q : Mm) => q)) x) := by
  have hk : Gr μ μ := Gr.rfl
  obtain ⟨v91, e91, h⟩ := bd h
  have h := Option.some.inj h
  subst h
  exact hk
theorem t_X1_choose_L61 {a0 : Nat} {l3 : Int32} {s61 : Int32 × Int32 × Mm} {x : ((Int32 × Int32 × Mm) ⊕ (Int32 × Mm))} (h : f_X1_choose_L61 a0 l3 s61 = some x) : Gr ((fun (q : Int32 × Int32 × Mm) => q.2.2) s61) (sm (fun (q : Int32 × Int32 × Mm) => q.2.2) (fun (q : Int32 × Mm) => q.2) x) := by
  have hk : Gr (s61.2.2) (s61.2.2) := Gr.rfl
  obtain ⟨x64, e64, h⟩ := bd h
  obtain ⟨x67, e67, h⟩ := bd h
  obtain ⟨x70, e70, h⟩ := bd h
  rcases ite_e h with ⟨_, h⟩ | ⟨_, h⟩
  · have h := Option.some.inj h
    subst h
    exact hk
  · obtain ⟨x81, e81, h⟩ := bd h
    have hk := Gr.after (Gr.of (t_X1_chooseDay e81)) hk
    obtain ⟨v85, e85, h⟩ := bd h
    have h := Option.some.inj h
    subst h
    exact hk
theorem t_X1_choose_W61 {a0 : Nat} {l3 : Int32} {s61 : Int32 × Int32 × Mm} {b : Int32 × Mm} (h : whl (f_X1_choose_L61 a0 l3) s61 = some b) : Gr ((fun (q : Int32 × Int32 × Mm) => q.2.2) s61) ((fun (q : Int32 × Mm) => q.2) b) :=
  whl_gr (g := (fun (q : Int32 × Int32 × Mm) => q.2.2)) (gb := (fun (q : Int32 × Mm) => q.2)) (fun s x hx => t_X1_choose_L61 hx) h
theorem t_X1_choose_L47 {a0 : Nat} {s47 : Int32 × Int32 × Mm} {x : ((Int32 × Int32 × Mm) ⊕ (Mm))} (h : f_X1_choose_L47 a0 s47 = some x) : Gr ((fun (q : Int32 × Int32 × Mm) => q.2.2) s47) (sm (fun (q : Int32 × Int32 × Mm) => q.2.2) (fun (q : Mm) => q) x) := by
  have hk : Gr (s47.2.2) (s47.2.2) := Gr.rfl
  obtain ⟨x49, e49, h⟩ := bd h
  obtain ⟨x52, e52, h⟩ := bd h
  rcases ite_e h with ⟨_, h⟩ | ⟨_, h⟩
  · have h := Option.some.inj h
    subst h
    exact hk
  · obtain ⟨b61, w61, h⟩ := bd h
    have hk := Gr.after (t_X1_choose_W61 w61) hk
    exact Gr.after (t_X1_choose_J91 h) hk
theorem t_X1_choose_W47 {a0 : Nat} {s47 : Int32 × Int32 × Mm} {b : Mm} (h : whl (f_X1_choose_L47 a0) s47 = some b) : Gr ((fun (q : Int32 × Int32 × Mm) => q.2.2) s47) ((fun (q : Mm) => q) b) :=
  whl_gr (g := (fun (q : Int32 × Int32 × Mm) => q.2.2)) (gb := (fun (q : Mm) => q)) (fun s x hx => t_X1_choose_L47 hx) h
theorem t_X1_choose {a0 : Nat} {l1 : Int32} {μ : Mm} {x : Mm} (h : f_X1_choose a0 l1 μ = some x) : Gr μ ((fun (q : Mm) => q) x) := by
  have hk : Gr μ μ := Gr.rfl
  obtain ⟨_, h⟩ := ite_p h
  obtain ⟨x1, e1, h⟩ := bd h
  rcases ite_e h with ⟨_, h⟩ | ⟨_, h⟩
  · obtain ⟨μ10, e10, h⟩ := bd h
    have hk := Gr.after (Gr.of (kq_pfZ e10)) hk
    obtain ⟨μ15, e15, h⟩ := bd h
    have hk := Gr.after (Gr.of (kq_pfI e15)) hk
    obtain ⟨μ20, e20, h⟩ := bd h
    have hk := Gr.after (Gr.of (kq_pfI e20)) hk
    obtain ⟨μ25, e25, h⟩ := bd h
    have hk := Gr.after (Gr.of (kq_pfI e25)) hk
    obtain ⟨x32, e32, h⟩ := bd h
    have hk := Gr.after (t_X1_findComings e32) hk
    obtain ⟨x37, e37, h⟩ := bd h
    have hk := Gr.after (t_X1_findFitting e37) hk
    obtain ⟨x41, e41, h⟩ := bd h
    obtain ⟨b47, w47, h⟩ := bd h
    have hk := Gr.after (t_X1_choose_W47 w47) hk
    have h := Option.some.inj h
    subst h
    exact hk
  · have h := Option.some.inj h
    subst h
    exact hk
set_option maxRecDepth 100000 in
set_option maxHeartbeats 4000000 in
theorem m_X1_choose {G : Gv} (a0 : Nat) (l1 : Int32) (μ : Mm) {r : Mm} (hx : f_X1_choose a0 l1 μ = some r) (mc ms : Nat) (hn : mm_N r ≤ mm_N μ + mc) (hz : mm_Z r ≤ mm_Z μ + ms) : Mt G yX1_choose cX1_choose 5 none 16 mc ms [.ref a0, .int l1] μ (fun v μ' => v = none ∧ μ' = r) := by
  have hN : Nz μ μ 0 0 := ⟨rfl, rfl⟩
  have hC : 0 ≤ mc ∧ 0 ≤ ms := ⟨Nat.zero_le _, Nat.zero_le _⟩
  have hB : ∀ x : Mm, x = r → mm_N ((fun (q : Mm) => q) x) ≤ mm_N μ + mc ∧ mm_Z ((fun (q : Mm) => q) x) ≤ mm_Z μ + ms := fun x e => by subst e; exact ⟨hn, hz⟩
  refine Mt.of (by decide) (Nat.le_of_ble_eq_true rfl) ?_
  show Rn_X1_choose G (fun v μ' => v = none ∧ μ' = r) mc ms 0 0 0 [(0, .ref a0), (1, .int l1)] [] μ
  obtain ⟨_, h⟩ := Sat_ifp (show Sat (f_X1_choose a0 l1 μ) (fun x => x = r) from ⟨_, hx, rfl⟩)
  refine r_aload_n dX1_choose_0 0 rfl ?_
  obtain ⟨x1, e1, h⟩ := Sat_bind h
  refine r_getI fk_X1_50 rfl e1 dX1_choose_1 ?_
  refine r_if_eq 8 dX1_choose_4 (by decide) (fun c4 => ?_) (fun c4 => ?_)
  · have h := Sat_pos c4 h
    refine r_aload_n dX1_choose_8 0 rfl ?_
    refine r_iconst (v := 1) dX1_choose_9 (by decide) ?_
    obtain ⟨μ10, e10, h⟩ := Sat_bind h
    refine r_putZ fk_X1_50 rfl rfl e10 dX1_choose_10 ?_
    have hN := nz_tl (kq_pfZ e10) hN
    refine r_aload_n dX1_choose_13 0 rfl ?_
    refine r_iconst (v := -1) dX1_choose_14 (by decide) ?_
    obtain ⟨μ15, e15, h⟩ := Sat_bind h
    refine r_putI fk_X1_164 rfl rfl e15 dX1_choose_15 ?_
    have hN := nz_tl (kq_pfI e15) hN
    refine r_aload_n dX1_choose_18 0 rfl ?_
    refine r_iconst (v := -1) dX1_choose_19 (by decide) ?_
    obtain ⟨μ20, e20, h⟩ := Sat_bind h
    refine r_putI fk_X1_167 rfl rfl e20 dX1_choose_20 ?_
    have hN := nz_tl (kq_pfI e20) hN
    refine r_aload_n dX1_choose_23 0 rfl ?_
    refine r_iconst (v := -1) dX1_choose_24 (by decide) ?_
    obtain ⟨μ25, e25, h⟩ := Sat_bind h
    refine r_putI fk_X1_170 rfl rfl e25 dX1_choose_25 ?_
    have hN := nz_tl (kq_pfI e25) hN
    refine r_aload_n dX1_choose_28 0 rfl ?_
    refine r_sipush (v := 4095) dX1_choose_29 (by decide) ?_
    obtain ⟨x32, e32, h⟩ := Sat_bind h
    have hN := nz_call (t_X1_findComings e32) hN
    have hC := bud_of hN (by
      obtain ⟨x, h, hx⟩ := id h
      have hk : Gr (x32) (x32) := Gr.rfl
      refine bud_le (?_ : Gr _ ((fun (q : Mm) => q) x)) (hB x hx)
      obtain ⟨x37, e37, h⟩ := bd h
      have hk := Gr.after (t_X1_findFitting e37) hk
      obtain ⟨x41, e41, h⟩ := bd h
      obtain ⟨b47, w47, h⟩ := bd h
      have hk := Gr.after (t_X1_choose_W47 w47) hk
      have h := Option.some.inj h
      subst h
      exact hk)
    refine r_bV (t := 2) [.int (4095 : Int32)] [] (m_X1_findComings a0 (4095 : Int32) μ25 e32 (mm_N x32 - mm_N μ25) (mm_Z x32 - mm_Z μ25) gr_N gr_Z) ck_X1_findComings lk_X1_119 in_X1_findComings se_X1_findComings (kd_of e32) ⟨rfl, by decide, by decide⟩ rfl rfl (Nat.le_of_ble_eq_true rfl) ⟨Nat.le_of_ble_eq_true rfl, Nat.le_of_ble_eq_true rfl⟩ hC dX1_choose_32 ?_
    refine r_aload_n dX1_choose_35 0 rfl ?_
    refine r_iload_n dX1_choose_36 1 rfl ?_
    obtain ⟨x37, e37, h⟩ := Sat_bind h
    have hN := nz_call (t_X1_findFitting e37) hN
    have hC := bud_of hN (by
      obtain ⟨x, h, hx⟩ := id h
      have hk : Gr (x37) (x37) := Gr.rfl
      refine bud_le (?_ : Gr _ ((fun (q : Mm) => q) x)) (hB x hx)
      obtain ⟨x41, e41, h⟩ := bd h
      obtain ⟨b47, w47, h⟩ := bd h
      have hk := Gr.after (t_X1_choose_W47 w47) hk
      have h := Option.some.inj h
      subst h
      exact hk)
    refine r_bV (t := 2) [.int l1] [] (m_X1_findFitting a0 l1 x32 e37 (mm_N x37 - mm_N x32) (mm_Z x37 - mm_Z x32) gr_N gr_Z) ck_X1_findFitting lk_X1_173 in_X1_findFitting se_X1_findFitting (kd_of e37) ⟨rfl, by decide, by decide⟩ rfl rfl (Nat.le_of_ble_eq_true rfl) ⟨Nat.le_of_ble_eq_true rfl, Nat.le_of_ble_eq_true rfl⟩ hC dX1_choose_37 ?_
    refine r_aload_n dX1_choose_40 0 rfl ?_
    obtain ⟨x41, e41, h⟩ := Sat_bind h
    refine r_getI fk_X1_122 rfl e41 dX1_choose_41 ?_
    refine r_istore_n (lv' := [(2, .int x41), (0, .ref a0), (1, .int l1)]) dX1_choose_44 rfl (by decide) rfl ?_
    refine r_iconst (v := 0) dX1_choose_45 (by decide) ?_
    refine r_istore_n (lv' := [(3, .int (0 : Int32)), (2, .int x41), (0, .ref a0), (1, .int l1)]) dX1_choose_46 rfl (by decide) rfl ?_
    refine r_sub (lv' := [(0, .ref a0), (2, .int x41), (3, .int (0 : Int32))]) [2, 1, 0] rfl ?_
    refine whl_B (s0 := ((x41, (0 : Int32), x37) : Int32 × Int32 × Mm)) (g := (fun (q : Int32 × Int32 × Mm) => q.2.2)) (gb := (fun (q : Mm) => q)) (Nr := mm_N μ + mc) (Zr := mm_Z μ + ms) (RR := fun (s47 : Int32 × Int32 × Mm) => ∀ (c47 z47 : Nat), Nz μ s47.2.2 c47 z47 → c47 ≤ mc ∧ z47 ≤ ms → Rn_X1_choose G (fun v μ' => v = none ∧ μ' = r) mc ms c47 z47 47 [(0, .ref a0), (2, .int s47.1), (3, .int s47.2.1)] [] s47.2.2) (fun s x hx => t_X1_choose_L47 hx) ?_ ?_ (Sat_bindK h) (0 + (mm_N x32 - mm_N μ25) + (mm_N x37 - mm_N x32)) (0 + (mm_Z x32 - mm_Z μ25) + (mm_Z x37 - mm_Z x32)) hN hC
    · intro b47 hb
      obtain ⟨x, h, hx⟩ := hb
      have hk : Gr ((fun (q : Mm) => q) b47) ((fun (q : Mm) => q) b47) := Gr.rfl
      refine bud_le (?_ : Gr _ ((fun (q : Mm) => q) x)) (hB x hx)
      have h := Option.some.inj h
      subst h
      exact hk
    · intro s47 K47 hI47 hX47 hB47 h c47 z47 hN hC
      have J91 : ∀ (l2_91 : Int32) (l3_91 : Int32) (μ_91 : Mm), ∀ (c91 z91 : Nat), Nz μ μ_91 c91 z91 → c91 ≤ mc ∧ z91 ≤ ms → Sat (f_X1_choose_J91 a0 l2_91 l3_91 μ_91) K47 → Rn_X1_choose G (fun v μ' => v = none ∧ μ' = r) mc ms c91 z91 91 [(0, .ref a0), (2, .int l2_91), (3, .int l3_91)] [] μ_91 := by
        intro l2_91 l3_91 μ_91 c91 z91 hN hC h
        obtain ⟨v91, e91, h⟩ := Sat_bind h
        refine r_iinc (j := 2) (v := v91) (lv' := [(3, .int v91), (0, .ref a0), (2, .int l2_91)]) dX1_choose_91 rfl (iinc_v e91 (by decide)) (by decide) rfl ?_
        refine r_goto 47 dX1_choose_94 (by decide) ?_
        exact r_sub [1, 2, 0] rfl (hI47 _ (Sat_some h) c91 z91 hN hC)
      refine r_iload_n dX1_choose_47 2 rfl ?_
      refine r_aload_n dX1_choose_48 0 rfl ?_
      obtain ⟨x49, e49, h⟩ := Sat_bind h
      refine r_getP fk_X1_31 rfl e49 dX1_choose_49 ?_
      obtain ⟨x52, e52, h⟩ := Sat_bind h
      refine r_getI fk_X1_149 rfl e52 dX1_choose_52 ?_
      refine r_icmp_ge 97 dX1_choose_55 (by decide) (fun c55 => ?_) (fun c55 => ?_)
      · have h := Sat_pos c55 h
        have h := hX47 _ (Sat_some h)
        refine r_widen hC.1 hC.2 ?_
        exact r_vreturn rfl (by rw [← Sat_eq h]; exact ⟨rfl, rfl⟩) dX1_choose_97
      · have h := Sat_neg c55 h
        refine r_iconst (v := 0) dX1_choose_58 (by decide) ?_
        refine r_istore (lv' := [(4, .int (0 : Int32)), (0, .ref a0), (2, .int s47.1), (3, .int s47.2.1)]) dX1_choose_59 (by decide) rfl ?_
        refine r_sub (lv' := [(0, .ref a0), (2, .int s47.1), (3, .int s47.2.1), (4, .int (0 : Int32))]) [1, 2, 3, 0] rfl ?_
        refine whl_B (s0 := ((s47.1, (0 : Int32), s47.2.2) : Int32 × Int32 × Mm)) (g := (fun (q : Int32 × Int32 × Mm) => q.2.2)) (gb := (fun (q : Int32 × Mm) => q.2)) (Nr := mm_N μ + mc) (Zr := mm_Z μ + ms) (RR := fun (s61 : Int32 × Int32 × Mm) => ∀ (c61 z61 : Nat), Nz μ s61.2.2 c61 z61 → c61 ≤ mc ∧ z61 ≤ ms → Rn_X1_choose G (fun v μ' => v = none ∧ μ' = r) mc ms c61 z61 61 [(0, .ref a0), (2, .int s61.1), (3, .int s47.2.1), (4, .int s61.2.1)] [] s61.2.2) (fun s x hx => t_X1_choose_L61 hx) ?_ ?_ (Sat_bindK h) c47 z47 hN hC
        · intro b61 hb
          obtain ⟨x, h, hx⟩ := hb
          have hk : Gr ((fun (q : Int32 × Mm) => q.2) b61) ((fun (q : Int32 × Mm) => q.2) b61) := Gr.rfl
          refine bud_le (?_ : Gr _ ((sm (fun (q : Int32 × Int32 × Mm) => q.2.2) (fun (q : Mm) => q)) x)) (hB47 x hx)
          exact Gr.after (t_X1_choose_J91 h) hk
        · intro s61 K61 hI61 hX61 hB61 h c61 z61 hN hC
          refine r_iload dX1_choose_61 3 rfl ?_
          refine r_aload_n dX1_choose_63 0 rfl ?_
          obtain ⟨x64, e64, h⟩ := Sat_bind h
          refine r_getP fk_X1_31 rfl e64 dX1_choose_64 ?_
          obtain ⟨x67, e67, h⟩ := Sat_bind h
          refine r_getP fk_X1_85 rfl e67 dX1_choose_67 ?_
          obtain ⟨x70, e70, h⟩ := Sat_bind h
          refine r_getI fk_X1_89 rfl e70 dX1_choose_70 ?_
          refine r_icmp_ge 91 dX1_choose_73 (by decide) (fun c73 => ?_) (fun c73 => ?_)
          · have h := Sat_pos c73 h
            have h := hX61 _ (Sat_some h)
            exact r_sub [0, 1, 2] rfl (J91 s61.1 s47.2.1 s61.2.2 c61 z61 hN hC h)
          · have h := Sat_neg c73 h
            refine r_aload_n dX1_choose_76 0 rfl ?_
            refine r_iload_n dX1_choose_77 2 rfl ?_
            refine r_iload dX1_choose_78 3 rfl ?_
            refine r_iload_n dX1_choose_80 1 rfl ?_
            obtain ⟨x81, e81, h⟩ := Sat_bind h
            refine r_cV (t := 2) [.int s47.2.1, .int s61.2.1, .int s61.1] [] (m_X1_chooseDay a0 s47.2.1 s61.2.1 s61.1 s61.2.2 e81) ck_X1_chooseDay lk_X1_176 in_X1_chooseDay se_X1_chooseDay (kd_of e81) ⟨rfl, by decide, by decide⟩ rfl rfl (Nat.le_of_ble_eq_true rfl) ⟨Nat.le_of_ble_eq_true rfl, Nat.le_of_ble_eq_true rfl⟩ hC dX1_choose_81 ?_
            have hN := nz_tl (t_X1_chooseDay e81) hN
            refine r_istore_n (lv' := [(2, .int x81.1), (0, .ref a0), (3, .int s47.2.1), (4, .int s61.2.1)]) dX1_choose_84 rfl (by decide) rfl ?_
            obtain ⟨v85, e85, h⟩ := Sat_bind h
            refine r_iinc (j := 3) (v := v85) (lv' := [(4, .int v85), (2, .int x81.1), (0, .ref a0), (3, .int s47.2.1)]) dX1_choose_85 rfl (iinc_v e85 (by decide)) (by decide) rfl ?_
            refine r_goto 61 dX1_choose_88 (by decide) ?_
            exact r_sub [2, 1, 3, 0] rfl (hI61 _ (Sat_some h) c61 z61 hN hC)
  · have h := Sat_neg c4 h
    refine r_widen hC.1 hC.2 ?_
    exact r_vreturn rfl (by rw [← Sat_eq h]; exact ⟨rfl, rfl⟩) dX1_choose_7
theorem dX10_ask_0 : decode cX10_ask 0 = .ok (.iload_n 1, 1) := by decide +kernel
theorem dX10_ask_1 : decode cX10_ask 1 = .ok (.ifCond .lt 8, 3) := by decide +kernel
theorem dX10_ask_4 : decode cX10_ask 4 = .ok (.iload_n 1, 1) := by decide +kernel
theorem dX10_ask_5 : decode cX10_ask 5 = .ok (.iconst 2, 1) := by decide +kernel
theorem dX10_ask_6 : decode cX10_ask 6 = .ok (.if_icmp .le 6, 3) := by decide +kernel
theorem dX10_ask_9 : decode cX10_ask 9 = .ok (.bipush (-2), 2) := by decide +kernel
theorem dX10_ask_11 : decode cX10_ask 11 = .ok (.ireturn, 1) := by decide +kernel
theorem dX10_ask_12 : decode cX10_ask 12 = .ok (.aload_n 0, 1) := by decide +kernel
theorem dX10_ask_13 : decode cX10_ask 13 = .ok (.getfield 93, 3) := by decide +kernel
theorem dX10_ask_16 : decode cX10_ask 16 = .ok (.sipush 999, 3) := by decide +kernel
theorem dX10_ask_19 : decode cX10_ask 19 = .ok (.invokevirtual 309, 3) := by decide +kernel
theorem dX10_ask_22 : decode cX10_ask 22 = .ok (.iload_n 1, 1) := by decide +kernel
theorem dX10_ask_23 : decode cX10_ask 23 = .ok (.ifCond .ne 11, 3) := by decide +kernel
theorem dX10_ask_26 : decode cX10_ask 26 = .ok (.aload_n 0, 1) := by decide +kernel
theorem dX10_ask_27 : decode cX10_ask 27 = .ok (.getfield 93, 3) := by decide +kernel
theorem dX10_ask_30 : decode cX10_ask 30 = .ok (.getfield 312, 3) := by decide +kernel
theorem dX10_ask_33 : decode cX10_ask 33 = .ok (.ireturn, 1) := by decide +kernel
theorem dX10_ask_34 : decode cX10_ask 34 = .ok (.iload_n 1, 1) := by decide +kernel
theorem dX10_ask_35 : decode cX10_ask 35 = .ok (.iconst 1, 1) := by decide +kernel
theorem dX10_ask_36 : decode cX10_ask 36 = .ok (.if_icmp .ne 13, 3) := by decide +kernel
theorem dX10_ask_39 : decode cX10_ask 39 = .ok (.aload_n 0, 1) := by decide +kernel
theorem dX10_ask_40 : decode cX10_ask 40 = .ok (.getfield 93, 3) := by decide +kernel
theorem dX10_ask_43 : decode cX10_ask 43 = .ok (.getfield 315, 3) := by decide +kernel
theorem dX10_ask_46 : decode cX10_ask 46 = .ok (.goto 10, 3) := by decide +kernel
theorem dX10_ask_49 : decode cX10_ask 49 = .ok (.aload_n 0, 1) := by decide +kernel
theorem dX10_ask_50 : decode cX10_ask 50 = .ok (.getfield 93, 3) := by decide +kernel
theorem dX10_ask_53 : decode cX10_ask 53 = .ok (.getfield 318, 3) := by decide +kernel
theorem dX10_ask_56 : decode cX10_ask 56 = .ok (.ireturn, 1) := by decide +kernel
noncomputable def f_X10_ask (a0 : Nat) (l1 : Int32) (μ : Mm) : Option (Int32 × Mm) :=
  if (mm_K μ a0).1 = 11 then if l1 < 0 then some ((-2 : Int32), μ) else if l1 ≤ (2 : Int32) then (gf_P 11 5 a0 μ).bind fun x13 => (f_X1_choose x13 (999 : Int32) μ).bind fun x19 => if l1 = 0 then (gf_P 11 5 a0 x19).bind fun x27 => (gf_I 2 12 x27 x19).bind fun x30 => some (x30, x19) else if l1 = (1 : Int32) then (gf_P 11 5 a0 x19).bind fun x40 => (gf_I 2 13 x40 x19).bind fun x43 => some (x43, x19) else (gf_P 11 5 a0 x19).bind fun x50 => (gf_I 2 14 x50 x19).bind fun x53 => some (x53, x19) else some ((-2 : Int32), μ) else none
abbrev Rn_X10_ask (G : Gv) (Q : Option Value → Mm → Prop) (mc ms c s : Nat) (pc : Nat) (lv : List (Nat × Value)) (st : List Value) (μ : Mm) : Prop := Rn G RX10 cX10_ask 2 (some .int) "ask" (rmd 17 mc ms) (Zm G mc ms Q) c s pc lv st μ
theorem t_X10_ask {a0 : Nat} {l1 : Int32} {μ : Mm} {x : (Int32 × Mm)} (h : f_X10_ask a0 l1 μ = some x) : Gr μ ((fun (q : (Int32 × Mm)) => q.2) x) := by
  have hk : Gr μ μ := Gr.rfl
  obtain ⟨_, h⟩ := ite_p h
  rcases ite_e h with ⟨_, h⟩ | ⟨_, h⟩
  · have h := Option.some.inj h
    subst h
    exact hk
  · rcases ite_e h with ⟨_, h⟩ | ⟨_, h⟩
    · obtain ⟨x13, e13, h⟩ := bd h
      obtain ⟨x19, e19, h⟩ := bd h
      have hk := Gr.after (t_X1_choose e19) hk
      rcases ite_e h with ⟨_, h⟩ | ⟨_, h⟩
      · obtain ⟨x27, e27, h⟩ := bd h
        obtain ⟨x30, e30, h⟩ := bd h
        have h := Option.some.inj h
        subst h
        exact hk
      · rcases ite_e h with ⟨_, h⟩ | ⟨_, h⟩
        · obtain ⟨x40, e40, h⟩ := bd h
          obtain ⟨x43, e43, h⟩ := bd h
          have h := Option.some.inj h
          subst h
          exact hk
        · obtain ⟨x50, e50, h⟩ := bd h
          obtain ⟨x53, e53, h⟩ := bd h
          have h := Option.some.inj h
          subst h
          exact hk
    · have h := Option.some.inj h
      subst h
      exact hk
set_option maxRecDepth 100000 in
set_option maxHeartbeats 4000000 in
theorem m_X10_ask {G : Gv} (a0 : Nat) (l1 : Int32) (μ : Mm) {r : (Int32 × Mm)} (hx : f_X10_ask a0 l1 μ = some r) (mc ms : Nat) (hn : mm_N r.2 ≤ mm_N μ + mc) (hz : mm_Z r.2 ≤ mm_Z μ + ms) : Mt G yX10_ask cX10_ask 2 (some .int) 17 mc ms [.ref a0, .int l1] μ (fun v μ' => v = some (.int r.1) ∧ μ' = r.2) := by
  have hN : Nz μ μ 0 0 := ⟨rfl, rfl⟩
  have hC : 0 ≤ mc ∧ 0 ≤ ms := ⟨Nat.zero_le _, Nat.zero_le _⟩
  have hB : ∀ x : (Int32 × Mm), x = r → mm_N ((fun (q : (Int32 × Mm)) => q.2) x) ≤ mm_N μ + mc ∧ mm_Z ((fun (q : (Int32 × Mm)) => q.2) x) ≤ mm_Z μ + ms := fun x e => by subst e; exact ⟨hn, hz⟩
  refine Mt.of (by decide) (Nat.le_of_ble_eq_true rfl) ?_
  show Rn_X10_ask G (fun v μ' => v = some (.int r.1) ∧ μ' = r.2) mc ms 0 0 0 [(0, .ref a0), (1, .int l1)] [] μ
  obtain ⟨_, h⟩ := Sat_ifp (show Sat (f_X10_ask a0 l1 μ) (fun x => x = r) from ⟨_, hx, rfl⟩)
  refine r_iload_n dX10_ask_0 1 rfl ?_
  refine r_if_lt 9 dX10_ask_1 (by decide) (fun c1 => ?_) (fun c1 => ?_)
  · have h := Sat_pos c1 h
    refine r_bipush (v := -2) dX10_ask_9 (by decide) ?_
    refine r_widen hC.1 hC.2 ?_
    exact r_ireturn rfl (by rw [← Sat_eq h]; exact ⟨rfl, rfl⟩) dX10_ask_11
  · have h := Sat_neg c1 h
    refine r_iload_n dX10_ask_4 1 rfl ?_
    refine r_iconst (v := 2) dX10_ask_5 (by decide) ?_
    refine r_icmp_le 12 dX10_ask_6 (by decide) (fun c6 => ?_) (fun c6 => ?_)
    · have h := Sat_pos c6 h
      refine r_aload_n dX10_ask_12 0 rfl ?_
      obtain ⟨x13, e13, h⟩ := Sat_bind h
      refine r_getP fk_X10_93 rfl e13 dX10_ask_13 ?_
      refine r_sipush (v := 999) dX10_ask_16 (by decide) ?_
      obtain ⟨x19, e19, h⟩ := Sat_bind h
      have hN := nz_call (t_X1_choose e19) hN
      have hC := bud_of hN (by
        obtain ⟨x, h, hx⟩ := id h
        have hk : Gr (x19) (x19) := Gr.rfl
        refine bud_le (?_ : Gr _ ((fun (q : (Int32 × Mm)) => q.2) x)) (hB x hx)
        rcases ite_e h with ⟨_, h⟩ | ⟨_, h⟩
        · obtain ⟨x27, e27, h⟩ := bd h
          obtain ⟨x30, e30, h⟩ := bd h
          have h := Option.some.inj h
          subst h
          exact hk
        · rcases ite_e h with ⟨_, h⟩ | ⟨_, h⟩
          · obtain ⟨x40, e40, h⟩ := bd h
            obtain ⟨x43, e43, h⟩ := bd h
            have h := Option.some.inj h
            subst h
            exact hk
          · obtain ⟨x50, e50, h⟩ := bd h
            obtain ⟨x53, e53, h⟩ := bd h
            have h := Option.some.inj h
            subst h
            exact hk)
      refine r_bV (t := 2) [.int (999 : Int32)] [] (m_X1_choose x13 (999 : Int32) μ e19 (mm_N x19 - mm_N μ) (mm_Z x19 - mm_Z μ) gr_N gr_Z) ck_X1_choose lk_X10_309 in_X1_choose se_X1_choose (kd_of e19) ⟨rfl, by decide, by decide⟩ rfl rfl (Nat.le_of_ble_eq_true rfl) ⟨Nat.le_of_ble_eq_true rfl, Nat.le_of_ble_eq_true rfl⟩ hC dX10_ask_19 ?_
      refine r_iload_n dX10_ask_22 1 rfl ?_
      refine r_if_ne 34 dX10_ask_23 (by decide) (fun c23 => ?_) (fun c23 => ?_)
      · have h := Sat_neg c23 h
        refine r_iload_n dX10_ask_34 1 rfl ?_
        refine r_iconst (v := 1) dX10_ask_35 (by decide) ?_
        refine r_icmp_ne 49 dX10_ask_36 (by decide) (fun c36 => ?_) (fun c36 => ?_)
        · have h := Sat_neg c36 h
          refine r_aload_n dX10_ask_49 0 rfl ?_
          obtain ⟨x50, e50, h⟩ := Sat_bind h
          refine r_getP fk_X10_93 rfl e50 dX10_ask_50 ?_
          obtain ⟨x53, e53, h⟩ := Sat_bind h
          refine r_getI fk_X10_318 rfl e53 dX10_ask_53 ?_
          refine r_widen hC.1 hC.2 ?_
          exact r_ireturn rfl (by rw [← Sat_eq h]; exact ⟨rfl, rfl⟩) dX10_ask_56
        · have h := Sat_pos c36 h
          refine r_aload_n dX10_ask_39 0 rfl ?_
          obtain ⟨x40, e40, h⟩ := Sat_bind h
          refine r_getP fk_X10_93 rfl e40 dX10_ask_40 ?_
          obtain ⟨x43, e43, h⟩ := Sat_bind h
          refine r_getI fk_X10_315 rfl e43 dX10_ask_43 ?_
          refine r_goto 56 dX10_ask_46 (by decide) ?_
          refine r_widen hC.1 hC.2 ?_
          exact r_ireturn rfl (by rw [← Sat_eq h]; exact ⟨rfl, rfl⟩) dX10_ask_56
      · have h := Sat_pos c23 h
        refine r_aload_n dX10_ask_26 0 rfl ?_
        obtain ⟨x27, e27, h⟩ := Sat_bind h
        refine r_getP fk_X10_93 rfl e27 dX10_ask_27 ?_
        obtain ⟨x30, e30, h⟩ := Sat_bind h
        refine r_getI fk_X10_312 rfl e30 dX10_ask_30 ?_
        refine r_widen hC.1 hC.2 ?_
        exact r_ireturn rfl (by rw [← Sat_eq h]; exact ⟨rfl, rfl⟩) dX10_ask_33
    · have h := Sat_neg c6 h
      refine r_bipush (v := -2) dX10_ask_9 (by decide) ?_
      refine r_widen hC.1 hC.2 ?_
      exact r_ireturn rfl (by rw [← Sat_eq h]; exact ⟨rfl, rfl⟩) dX10_ask_11
theorem dX10_fit_0 : decode cX10_fit 0 = .ok (.iload_n 1, 1) := by decide +kernel
theorem dX10_fit_1 : decode cX10_fit 1 = .ok (.invokestatic 291, 3) := by decide +kernel
theorem dX10_fit_4 : decode cX10_fit 4 = .ok (.ifCond .eq 12, 3) := by decide +kernel
theorem dX10_fit_7 : decode cX10_fit 7 = .ok (.iload_n 2, 1) := by decide +kernel
theorem dX10_fit_8 : decode cX10_fit 8 = .ok (.ifCond .lt 8, 3) := by decide +kernel
theorem dX10_fit_11 : decode cX10_fit 11 = .ok (.iload_n 2, 1) := by decide +kernel
theorem dX10_fit_12 : decode cX10_fit 12 = .ok (.iconst 2, 1) := by decide +kernel
theorem dX10_fit_13 : decode cX10_fit 13 = .ok (.if_icmp .le 6, 3) := by decide +kernel
theorem dX10_fit_16 : decode cX10_fit 16 = .ok (.bipush (-2), 2) := by decide +kernel
theorem dX10_fit_18 : decode cX10_fit 18 = .ok (.ireturn, 1) := by decide +kernel
theorem dX10_fit_19 : decode cX10_fit 19 = .ok (.aload_n 0, 1) := by decide +kernel
theorem dX10_fit_20 : decode cX10_fit 20 = .ok (.getfield 93, 3) := by decide +kernel
theorem dX10_fit_23 : decode cX10_fit 23 = .ok (.iload_n 1, 1) := by decide +kernel
theorem dX10_fit_24 : decode cX10_fit 24 = .ok (.invokevirtual 294, 3) := by decide +kernel
theorem dX10_fit_27 : decode cX10_fit 27 = .ok (.iload_n 2, 1) := by decide +kernel
theorem dX10_fit_28 : decode cX10_fit 28 = .ok (.ifCond .ne 11, 3) := by decide +kernel
theorem dX10_fit_31 : decode cX10_fit 31 = .ok (.aload_n 0, 1) := by decide +kernel
theorem dX10_fit_32 : decode cX10_fit 32 = .ok (.getfield 93, 3) := by decide +kernel
theorem dX10_fit_35 : decode cX10_fit 35 = .ok (.getfield 297, 3) := by decide +kernel
theorem dX10_fit_38 : decode cX10_fit 38 = .ok (.ireturn, 1) := by decide +kernel
theorem dX10_fit_39 : decode cX10_fit 39 = .ok (.iload_n 2, 1) := by decide +kernel
theorem dX10_fit_40 : decode cX10_fit 40 = .ok (.iconst 1, 1) := by decide +kernel
theorem dX10_fit_41 : decode cX10_fit 41 = .ok (.if_icmp .ne 13, 3) := by decide +kernel
theorem dX10_fit_44 : decode cX10_fit 44 = .ok (.aload_n 0, 1) := by decide +kernel
theorem dX10_fit_45 : decode cX10_fit 45 = .ok (.getfield 93, 3) := by decide +kernel
theorem dX10_fit_48 : decode cX10_fit 48 = .ok (.invokevirtual 300, 3) := by decide +kernel
theorem dX10_fit_51 : decode cX10_fit 51 = .ok (.goto 10, 3) := by decide +kernel
theorem dX10_fit_54 : decode cX10_fit 54 = .ok (.aload_n 0, 1) := by decide +kernel
theorem dX10_fit_55 : decode cX10_fit 55 = .ok (.getfield 93, 3) := by decide +kernel
theorem dX10_fit_58 : decode cX10_fit 58 = .ok (.invokevirtual 303, 3) := by decide +kernel
theorem dX10_fit_61 : decode cX10_fit 61 = .ok (.ireturn, 1) := by decide +kernel
noncomputable def f_X10_fit (a0 : Nat) (l1 : Int32) (l2 : Int32) (μ : Mm) : Option (Int32 × Mm) :=
  if (mm_K μ a0).1 = 11 then (f_X10_isStep l1 μ).bind fun x1 => if x1 = 0 then some ((-2 : Int32), μ) else if l2 < 0 then some ((-2 : Int32), μ) else if l2 ≤ (2 : Int32) then (gf_P 11 5 a0 μ).bind fun x20 => (f_X1_findFitting x20 l1 μ).bind fun x24 => if l2 = 0 then (gf_P 11 5 a0 x24).bind fun x32 => (gf_I 2 8 x32 x24).bind fun x35 => some (x35, x24) else if l2 = (1 : Int32) then (gf_P 11 5 a0 x24).bind fun x45 => (f_X1_leastFitting x45 x24).bind fun x48 => some (x48, x24) else (gf_P 11 5 a0 x24).bind fun x55 => (f_X1_greatestFitting x55 x24).bind fun x58 => some (x58, x24) else some ((-2 : Int32), μ) else none
abbrev Rn_X10_fit (G : Gv) (Q : Option Value → Mm → Prop) (mc ms c s : Nat) (pc : Nat) (lv : List (Nat × Value)) (st : List Value) (μ : Mm) : Prop := Rn G RX10 cX10_fit 3 (some .int) "fit" (rmd 16 mc ms) (Zm G mc ms Q) c s pc lv st μ
theorem t_X10_fit {a0 : Nat} {l1 : Int32} {l2 : Int32} {μ : Mm} {x : (Int32 × Mm)} (h : f_X10_fit a0 l1 l2 μ = some x) : Gr μ ((fun (q : (Int32 × Mm)) => q.2) x) := by
  have hk : Gr μ μ := Gr.rfl
  obtain ⟨_, h⟩ := ite_p h
  obtain ⟨x1, e1, h⟩ := bd h
  rcases ite_e h with ⟨_, h⟩ | ⟨_, h⟩
  · have h := Option.some.inj h
    subst h
    exact hk
  · rcases ite_e h with ⟨_, h⟩ | ⟨_, h⟩
    · have h := Option.some.inj h
      subst h
      exact hk
    · rcases ite_e h with ⟨_, h⟩ | ⟨_, h⟩
      · obtain ⟨x20, e20, h⟩ := bd h
        obtain ⟨x24, e24, h⟩ := bd h
        have hk := Gr.after (t_X1_findFitting e24) hk
        rcases ite_e h with ⟨_, h⟩ | ⟨_, h⟩
        · obtain ⟨x32, e32, h⟩ := bd h
          obtain ⟨x35, e35, h⟩ := bd h
          have h := Option.some.inj h
          subst h
          exact hk
        · rcases ite_e h with ⟨_, h⟩ | ⟨_, h⟩
          · obtain ⟨x45, e45, h⟩ := bd h
            obtain ⟨x48, e48, h⟩ := bd h
            have h := Option.some.inj h
            subst h
            exact hk
          · obtain ⟨x55, e55, h⟩ := bd h
            obtain ⟨x58, e58, h⟩ := bd h
            have h := Option.some.inj h
            subst h
            exact hk
      · have h := Option.some.inj h
        subst h
        exact hk
set_option maxRecDepth 100000 in
set_option maxHeartbeats 4000000 in
theorem m_X10_fit {G : Gv} (a0 : Nat) (l1 : Int32) (l2 : Int32) (μ : Mm) {r : (Int32 × Mm)} (hx : f_X10_fit a0 l1 l2 μ = some r) (mc ms : Nat) (hn : mm_N r.2 ≤ mm_N μ + mc) (hz : mm_Z r.2 ≤ mm_Z μ + ms) : Mt G yX10_fit cX10_fit 3 (some .int) 16 mc ms [.ref a0, .int l1, .int l2] μ (fun v μ' => v = some (.int r.1) ∧ μ' = r.2) := by
  have hN : Nz μ μ 0 0 := ⟨rfl, rfl⟩
  have hC : 0 ≤ mc ∧ 0 ≤ ms := ⟨Nat.zero_le _, Nat.zero_le _⟩
  have hB : ∀ x : (Int32 × Mm), x = r → mm_N ((fun (q : (Int32 × Mm)) => q.2) x) ≤ mm_N μ + mc ∧ mm_Z ((fun (q : (Int32 × Mm)) => q.2) x) ≤ mm_Z μ + ms := fun x e => by subst e; exact ⟨hn, hz⟩
  refine Mt.of (by decide) (Nat.le_of_ble_eq_true rfl) ?_
  show Rn_X10_fit G (fun v μ' => v = some (.int r.1) ∧ μ' = r.2) mc ms 0 0 0 [(0, .ref a0), (1, .int l1), (2, .int l2)] [] μ
  obtain ⟨_, h⟩ := Sat_ifp (show Sat (f_X10_fit a0 l1 l2 μ) (fun x => x = r) from ⟨_, hx, rfl⟩)
  refine r_iload_n dX10_fit_0 1 rfl ?_
  obtain ⟨x1, e1, h⟩ := Sat_bind h
  refine r_cS [.int l1] [] (m_X10_isStep l1 μ e1) ck_X10_isStep lk_X10_291 st_X10_isStep rfl rfl (Nat.le_of_ble_eq_true rfl) ⟨Nat.le_of_ble_eq_true rfl, Nat.le_of_ble_eq_true rfl⟩ hC dX10_fit_1 ?_
  refine r_if_eq 16 dX10_fit_4 (by decide) (fun c4 => ?_) (fun c4 => ?_)
  · have h := Sat_pos c4 h
    refine r_bipush (v := -2) dX10_fit_16 (by decide) ?_
    refine r_widen hC.1 hC.2 ?_
    exact r_ireturn rfl (by rw [← Sat_eq h]; exact ⟨rfl, rfl⟩) dX10_fit_18
  · have h := Sat_neg c4 h
    refine r_iload_n dX10_fit_7 2 rfl ?_
    refine r_if_lt 16 dX10_fit_8 (by decide) (fun c8 => ?_) (fun c8 => ?_)
    · have h := Sat_pos c8 h
      refine r_bipush (v := -2) dX10_fit_16 (by decide) ?_
      refine r_widen hC.1 hC.2 ?_
      exact r_ireturn rfl (by rw [← Sat_eq h]; exact ⟨rfl, rfl⟩) dX10_fit_18
    · have h := Sat_neg c8 h
      refine r_iload_n dX10_fit_11 2 rfl ?_
      refine r_iconst (v := 2) dX10_fit_12 (by decide) ?_
      refine r_icmp_le 19 dX10_fit_13 (by decide) (fun c13 => ?_) (fun c13 => ?_)
      · have h := Sat_pos c13 h
        refine r_aload_n dX10_fit_19 0 rfl ?_
        obtain ⟨x20, e20, h⟩ := Sat_bind h
        refine r_getP fk_X10_93 rfl e20 dX10_fit_20 ?_
        refine r_iload_n dX10_fit_23 1 rfl ?_
        obtain ⟨x24, e24, h⟩ := Sat_bind h
        have hN := nz_call (t_X1_findFitting e24) hN
        have hC := bud_of hN (by
          obtain ⟨x, h, hx⟩ := id h
          have hk : Gr (x24) (x24) := Gr.rfl
          refine bud_le (?_ : Gr _ ((fun (q : (Int32 × Mm)) => q.2) x)) (hB x hx)
          rcases ite_e h with ⟨_, h⟩ | ⟨_, h⟩
          · obtain ⟨x32, e32, h⟩ := bd h
            obtain ⟨x35, e35, h⟩ := bd h
            have h := Option.some.inj h
            subst h
            exact hk
          · rcases ite_e h with ⟨_, h⟩ | ⟨_, h⟩
            · obtain ⟨x45, e45, h⟩ := bd h
              obtain ⟨x48, e48, h⟩ := bd h
              have h := Option.some.inj h
              subst h
              exact hk
            · obtain ⟨x55, e55, h⟩ := bd h
              obtain ⟨x58, e58, h⟩ := bd h
              have h := Option.some.inj h
              subst h
              exact hk)
        refine r_bV (t := 2) [.int l1] [] (m_X1_findFitting x20 l1 μ e24 (mm_N x24 - mm_N μ) (mm_Z x24 - mm_Z μ) gr_N gr_Z) ck_X1_findFitting lk_X10_294 in_X1_findFitting se_X1_findFitting (kd_of e24) ⟨rfl, by decide, by decide⟩ rfl rfl (Nat.le_of_ble_eq_true rfl) ⟨Nat.le_of_ble_eq_true rfl, Nat.le_of_ble_eq_true rfl⟩ hC dX10_fit_24 ?_
        refine r_iload_n dX10_fit_27 2 rfl ?_
        refine r_if_ne 39 dX10_fit_28 (by decide) (fun c28 => ?_) (fun c28 => ?_)
        · have h := Sat_neg c28 h
          refine r_iload_n dX10_fit_39 2 rfl ?_
          refine r_iconst (v := 1) dX10_fit_40 (by decide) ?_
          refine r_icmp_ne 54 dX10_fit_41 (by decide) (fun c41 => ?_) (fun c41 => ?_)
          · have h := Sat_neg c41 h
            refine r_aload_n dX10_fit_54 0 rfl ?_
            obtain ⟨x55, e55, h⟩ := Sat_bind h
            refine r_getP fk_X10_93 rfl e55 dX10_fit_55 ?_
            obtain ⟨x58, e58, h⟩ := Sat_bind h
            refine r_cV (t := 2) [] [] (m_X1_greatestFitting x55 x24 e58) ck_X1_greatestFitting lk_X10_303 in_X1_greatestFitting se_X1_greatestFitting (kd_of e58) ⟨rfl, by decide, by decide⟩ rfl rfl (Nat.le_of_ble_eq_true rfl) ⟨Nat.le_of_ble_eq_true rfl, Nat.le_of_ble_eq_true rfl⟩ hC dX10_fit_58 ?_
            refine r_widen hC.1 hC.2 ?_
            exact r_ireturn rfl (by rw [← Sat_eq h]; exact ⟨rfl, rfl⟩) dX10_fit_61
          · have h := Sat_pos c41 h
            refine r_aload_n dX10_fit_44 0 rfl ?_
            obtain ⟨x45, e45, h⟩ := Sat_bind h
            refine r_getP fk_X10_93 rfl e45 dX10_fit_45 ?_
            obtain ⟨x48, e48, h⟩ := Sat_bind h
            refine r_cV (t := 2) [] [] (m_X1_leastFitting x45 x24 e48) ck_X1_leastFitting lk_X10_300 in_X1_leastFitting se_X1_leastFitting (kd_of e48) ⟨rfl, by decide, by decide⟩ rfl rfl (Nat.le_of_ble_eq_true rfl) ⟨Nat.le_of_ble_eq_true rfl, Nat.le_of_ble_eq_true rfl⟩ hC dX10_fit_48 ?_
            refine r_goto 61 dX10_fit_51 (by decide) ?_
            refine r_widen hC.1 hC.2 ?_
            exact r_ireturn rfl (by rw [← Sat_eq h]; exact ⟨rfl, rfl⟩) dX10_fit_61
        · have h := Sat_pos c28 h
          refine r_aload_n dX10_fit_31 0 rfl ?_
          obtain ⟨x32, e32, h⟩ := Sat_bind h
          refine r_getP fk_X10_93 rfl e32 dX10_fit_32 ?_
          obtain ⟨x35, e35, h⟩ := Sat_bind h
          refine r_getI fk_X10_297 rfl e35 dX10_fit_35 ?_
          refine r_widen hC.1 hC.2 ?_
          exact r_ireturn rfl (by rw [← Sat_eq h]; exact ⟨rfl, rfl⟩) dX10_fit_38
      · have h := Sat_neg c13 h
        refine r_bipush (v := -2) dX10_fit_16 (by decide) ?_
        refine r_widen hC.1 hC.2 ?_
        exact r_ireturn rfl (by rw [← Sat_eq h]; exact ⟨rfl, rfl⟩) dX10_fit_18
theorem dX1_init_0 : decode cX1_init 0 = .ok (.aload_n 0, 1) := by decide +kernel
theorem dX1_init_1 : decode cX1_init 1 = .ok (.invokespecial 3, 3) := by decide +kernel
theorem dX1_init_4 : decode cX1_init 4 = .ok (.aload_n 0, 1) := by decide +kernel
theorem dX1_init_5 : decode cX1_init 5 = .ok (.bipush 12, 2) := by decide +kernel
theorem dX1_init_7 : decode cX1_init 7 = .ok (.iconst 0, 1) := by decide +kernel
theorem dX1_init_8 : decode cX1_init 8 = .ok (.multianewarray 9 2, 4) := by decide +kernel
theorem dX1_init_12 : decode cX1_init 12 = .ok (.putfield 11, 3) := by decide +kernel
theorem dX1_init_15 : decode cX1_init 15 = .ok (.aload_n 0, 1) := by decide +kernel
theorem dX1_init_16 : decode cX1_init 16 = .ok (.bipush 56, 2) := by decide +kernel
theorem dX1_init_18 : decode cX1_init 18 = .ok (.newarray .int, 2) := by decide +kernel
theorem dX1_init_20 : decode cX1_init 20 = .ok (.putfield 16, 3) := by decide +kernel
theorem dX1_init_23 : decode cX1_init 23 = .ok (.aload_n 0, 1) := by decide +kernel
theorem dX1_init_24 : decode cX1_init 24 = .ok (.bipush 16, 2) := by decide +kernel
theorem dX1_init_26 : decode cX1_init 26 = .ok (.newarray .int, 2) := by decide +kernel
theorem dX1_init_28 : decode cX1_init 28 = .ok (.putfield 22, 3) := by decide +kernel
theorem dX1_init_31 : decode cX1_init 31 = .ok (.aload_n 0, 1) := by decide +kernel
theorem dX1_init_32 : decode cX1_init 32 = .ok (.iconst 0, 1) := by decide +kernel
theorem dX1_init_33 : decode cX1_init 33 = .ok (.newarray .int, 2) := by decide +kernel
theorem dX1_init_35 : decode cX1_init 35 = .ok (.putfield 25, 3) := by decide +kernel
theorem dX1_init_38 : decode cX1_init 38 = .ok (.aload_n 0, 1) := by decide +kernel
theorem dX1_init_39 : decode cX1_init 39 = .ok (.iconst 0, 1) := by decide +kernel
theorem dX1_init_40 : decode cX1_init 40 = .ok (.newarray .int, 2) := by decide +kernel
theorem dX1_init_42 : decode cX1_init 42 = .ok (.putfield 28, 3) := by decide +kernel
theorem dX1_init_45 : decode cX1_init 45 = .ok (.aload_n 0, 1) := by decide +kernel
theorem dX1_init_46 : decode cX1_init 46 = .ok (.aload_n 1, 1) := by decide +kernel
theorem dX1_init_47 : decode cX1_init 47 = .ok (.putfield 31, 3) := by decide +kernel
theorem dX1_init_50 : decode cX1_init 50 = .ok (.aload_n 0, 1) := by decide +kernel
theorem dX1_init_51 : decode cX1_init 51 = .ok (.aload_n 2, 1) := by decide +kernel
theorem dX1_init_52 : decode cX1_init 52 = .ok (.putfield 35, 3) := by decide +kernel
theorem dX1_init_55 : decode cX1_init 55 = .ok (.aload_n 0, 1) := by decide +kernel
theorem dX1_init_56 : decode cX1_init 56 = .ok (.aload_n 3, 1) := by decide +kernel
theorem dX1_init_57 : decode cX1_init 57 = .ok (.putfield 39, 3) := by decide +kernel
theorem dX1_init_60 : decode cX1_init 60 = .ok (.return_, 1) := by decide +kernel
noncomputable def f_X1_init (a0 : Nat) (l1 : Nat) (l2 : Nat) (l3 : Nat) (μ : Mm) : Option Mm :=
  if (mm_K μ a0).1 = 2 then (nw_M (12 : Int32) (0 : Int32) μ).bind fun n8 => (pf_P 2 2 a0 n8.1 n8.2).bind fun μ12 => (nw_A 20 (56 : Int32) μ12).bind fun n18 => (pf_P 2 3 a0 n18.1 n18.2).bind fun μ20 => (nw_A 20 (16 : Int32) μ20).bind fun n26 => (pf_P 2 4 a0 n26.1 n26.2).bind fun μ28 => (nw_A 20 (0 : Int32) μ28).bind fun n33 => (pf_P 2 6 a0 n33.1 n33.2).bind fun μ35 => (nw_A 20 (0 : Int32) μ35).bind fun n40 => (pf_P 2 7 a0 n40.1 n40.2).bind fun μ42 => (pf_P 2 5 a0 l1 μ42).bind fun μ47 => (pf_P 2 0 a0 l2 μ47).bind fun μ52 => (pf_P 2 1 a0 l3 μ52).bind fun μ57 => some μ57 else none
abbrev Rn_X1_init (G : Gv) (Q : Option Value → Mm → Prop) (mc ms c s : Nat) (pc : Nat) (lv : List (Nat × Value)) (st : List Value) (μ : Mm) : Prop := Rn G RX1 cX1_init 4 none "<init>" (rmd 1 mc ms) (Zm G mc ms Q) c s pc lv st μ
theorem t_X1_init {a0 : Nat} {l1 : Nat} {l2 : Nat} {l3 : Nat} {μ : Mm} {x : Mm} (h : f_X1_init a0 l1 l2 l3 μ = some x) : Gr μ ((fun (q : Mm) => q) x) := by
  have hk : Gr μ μ := Gr.rfl
  obtain ⟨_, h⟩ := ite_p h
  obtain ⟨n8, e8, h⟩ := bd h
  have hk := Gr.trans hk (gr_M e8)
  obtain ⟨μ12, e12, h⟩ := bd h
  have hk := Gr.after (Gr.of (kq_pfP e12)) hk
  obtain ⟨n18, e18, h⟩ := bd h
  have hk := Gr.trans hk (gr_A (by decide) e18)
  obtain ⟨μ20, e20, h⟩ := bd h
  have hk := Gr.after (Gr.of (kq_pfP e20)) hk
  obtain ⟨n26, e26, h⟩ := bd h
  have hk := Gr.trans hk (gr_A (by decide) e26)
  obtain ⟨μ28, e28, h⟩ := bd h
  have hk := Gr.after (Gr.of (kq_pfP e28)) hk
  obtain ⟨n33, e33, h⟩ := bd h
  have hk := Gr.trans hk (gr_A (by decide) e33)
  obtain ⟨μ35, e35, h⟩ := bd h
  have hk := Gr.after (Gr.of (kq_pfP e35)) hk
  obtain ⟨n40, e40, h⟩ := bd h
  have hk := Gr.trans hk (gr_A (by decide) e40)
  obtain ⟨μ42, e42, h⟩ := bd h
  have hk := Gr.after (Gr.of (kq_pfP e42)) hk
  obtain ⟨μ47, e47, h⟩ := bd h
  have hk := Gr.after (Gr.of (kq_pfP e47)) hk
  obtain ⟨μ52, e52, h⟩ := bd h
  have hk := Gr.after (Gr.of (kq_pfP e52)) hk
  obtain ⟨μ57, e57, h⟩ := bd h
  have hk := Gr.after (Gr.of (kq_pfP e57)) hk
  have h := Option.some.inj h
  subst h
  exact hk
set_option maxRecDepth 100000 in
set_option maxHeartbeats 4000000 in
theorem m_X1_init {G : Gv} (a0 : Nat) (l1 : Nat) (l2 : Nat) (l3 : Nat) (μ : Mm) {r : Mm} (hx : f_X1_init a0 l1 l2 l3 μ = some r) (mc ms : Nat) (hn : mm_N r ≤ mm_N μ + mc) (hz : mm_Z r ≤ mm_Z μ + ms) : Mt G yX1_init cX1_init 4 none 1 mc ms [.ref a0, .ref l1, .ref l2, .ref l3] μ (fun v μ' => v = none ∧ μ' = r) := by
  have hN : Nz μ μ 0 0 := ⟨rfl, rfl⟩
  have hC : 0 ≤ mc ∧ 0 ≤ ms := ⟨Nat.zero_le _, Nat.zero_le _⟩
  have hB : ∀ x : Mm, x = r → mm_N ((fun (q : Mm) => q) x) ≤ mm_N μ + mc ∧ mm_Z ((fun (q : Mm) => q) x) ≤ mm_Z μ + ms := fun x e => by subst e; exact ⟨hn, hz⟩
  refine Mt.of (by decide) (Nat.le_of_ble_eq_true rfl) ?_
  show Rn_X1_init G (fun v μ' => v = none ∧ μ' = r) mc ms 0 0 0 [(0, .ref a0), (1, .ref l1), (2, .ref l2), (3, .ref l3)] [] μ
  obtain ⟨_, h⟩ := Sat_ifp (show Sat (f_X1_init a0 l1 l2 l3 μ) (fun x => x = r) from ⟨_, hx, rfl⟩)
  refine r_aload_n dX1_init_0 0 rfl ?_
  refine r_objInit lo_X1_3 lo_in lo_co (Nat.le_of_ble_eq_true rfl) ⟨Nat.le_of_ble_eq_true rfl, Nat.le_of_ble_eq_true rfl⟩ dX1_init_1 ?_
  refine r_aload_n dX1_init_4 0 rfl ?_
  refine r_bipush (v := 12) dX1_init_5 (by decide) ?_
  refine r_iconst (v := 0) dX1_init_7 (by decide) ?_
  obtain ⟨n8, e8, h⟩ := Sat_bind h
  have hN := nz_M e8 hN
  have hC := bud_of hN (by
    obtain ⟨x, h, hx⟩ := id h
    have hk : Gr (n8.2) (n8.2) := Gr.rfl
    refine bud_le (?_ : Gr _ ((fun (q : Mm) => q) x)) (hB x hx)
    obtain ⟨μ12, e12, h⟩ := bd h
    have hk := Gr.after (Gr.of (kq_pfP e12)) hk
    obtain ⟨n18, e18, h⟩ := bd h
    have hk := Gr.trans hk (gr_A (by decide) e18)
    obtain ⟨μ20, e20, h⟩ := bd h
    have hk := Gr.after (Gr.of (kq_pfP e20)) hk
    obtain ⟨n26, e26, h⟩ := bd h
    have hk := Gr.trans hk (gr_A (by decide) e26)
    obtain ⟨μ28, e28, h⟩ := bd h
    have hk := Gr.after (Gr.of (kq_pfP e28)) hk
    obtain ⟨n33, e33, h⟩ := bd h
    have hk := Gr.trans hk (gr_A (by decide) e33)
    obtain ⟨μ35, e35, h⟩ := bd h
    have hk := Gr.after (Gr.of (kq_pfP e35)) hk
    obtain ⟨n40, e40, h⟩ := bd h
    have hk := Gr.trans hk (gr_A (by decide) e40)
    obtain ⟨μ42, e42, h⟩ := bd h
    have hk := Gr.after (Gr.of (kq_pfP e42)) hk
    obtain ⟨μ47, e47, h⟩ := bd h
    have hk := Gr.after (Gr.of (kq_pfP e47)) hk
    obtain ⟨μ52, e52, h⟩ := bd h
    have hk := Gr.after (Gr.of (kq_pfP e52)) hk
    obtain ⟨μ57, e57, h⟩ := bd h
    have hk := Gr.after (Gr.of (kq_pfP e57)) hk
    have h := Option.some.inj h
    subst h
    exact hk)
  refine r_mna e8 kl_mna ka_21 hC dX1_init_8 ?_
  obtain ⟨μ12, e12, h⟩ := Sat_bind h
  refine r_putP fk_X1_11 (Or.inr ⟨rfl, rfl, rfl, fl_X1_11⟩) rfl e12 dX1_init_12 ?_
  have hN := nz_tl (kq_pfP e12) hN
  refine r_aload_n dX1_init_15 0 rfl ?_
  refine r_bipush (v := 56) dX1_init_16 (by decide) ?_
  obtain ⟨n18, e18, h⟩ := Sat_bind h
  have hN := nz_A (by decide) e18 hN
  have hC := bud_of hN (by
    obtain ⟨x, h, hx⟩ := id h
    have hk : Gr (n18.2) (n18.2) := Gr.rfl
    refine bud_le (?_ : Gr _ ((fun (q : Mm) => q) x)) (hB x hx)
    obtain ⟨μ20, e20, h⟩ := bd h
    have hk := Gr.after (Gr.of (kq_pfP e20)) hk
    obtain ⟨n26, e26, h⟩ := bd h
    have hk := Gr.trans hk (gr_A (by decide) e26)
    obtain ⟨μ28, e28, h⟩ := bd h
    have hk := Gr.after (Gr.of (kq_pfP e28)) hk
    obtain ⟨n33, e33, h⟩ := bd h
    have hk := Gr.trans hk (gr_A (by decide) e33)
    obtain ⟨μ35, e35, h⟩ := bd h
    have hk := Gr.after (Gr.of (kq_pfP e35)) hk
    obtain ⟨n40, e40, h⟩ := bd h
    have hk := Gr.trans hk (gr_A (by decide) e40)
    obtain ⟨μ42, e42, h⟩ := bd h
    have hk := Gr.after (Gr.of (kq_pfP e42)) hk
    obtain ⟨μ47, e47, h⟩ := bd h
    have hk := Gr.after (Gr.of (kq_pfP e47)) hk
    obtain ⟨μ52, e52, h⟩ := bd h
    have hk := Gr.after (Gr.of (kq_pfP e52)) hk
    obtain ⟨μ57, e57, h⟩ := bd h
    have hk := Gr.after (Gr.of (kq_pfP e57)) hk
    have h := Option.some.inj h
    subst h
    exact hk)
  refine r_newarray (t := 20) (by decide) rfl e18 ka_20 hC dX1_init_18 ?_
  obtain ⟨μ20, e20, h⟩ := Sat_bind h
  refine r_putP fk_X1_16 (Or.inr ⟨rfl, rfl, rfl, fl_X1_16⟩) rfl e20 dX1_init_20 ?_
  have hN := nz_tl (kq_pfP e20) hN
  refine r_aload_n dX1_init_23 0 rfl ?_
  refine r_bipush (v := 16) dX1_init_24 (by decide) ?_
  obtain ⟨n26, e26, h⟩ := Sat_bind h
  have hN := nz_A (by decide) e26 hN
  have hC := bud_of hN (by
    obtain ⟨x, h, hx⟩ := id h
    have hk : Gr (n26.2) (n26.2) := Gr.rfl
    refine bud_le (?_ : Gr _ ((fun (q : Mm) => q) x)) (hB x hx)
    obtain ⟨μ28, e28, h⟩ := bd h
    have hk := Gr.after (Gr.of (kq_pfP e28)) hk
    obtain ⟨n33, e33, h⟩ := bd h
    have hk := Gr.trans hk (gr_A (by decide) e33)
    obtain ⟨μ35, e35, h⟩ := bd h
    have hk := Gr.after (Gr.of (kq_pfP e35)) hk
    obtain ⟨n40, e40, h⟩ := bd h
    have hk := Gr.trans hk (gr_A (by decide) e40)
    obtain ⟨μ42, e42, h⟩ := bd h
    have hk := Gr.after (Gr.of (kq_pfP e42)) hk
    obtain ⟨μ47, e47, h⟩ := bd h
    have hk := Gr.after (Gr.of (kq_pfP e47)) hk
    obtain ⟨μ52, e52, h⟩ := bd h
    have hk := Gr.after (Gr.of (kq_pfP e52)) hk
    obtain ⟨μ57, e57, h⟩ := bd h
    have hk := Gr.after (Gr.of (kq_pfP e57)) hk
    have h := Option.some.inj h
    subst h
    exact hk)
  refine r_newarray (t := 20) (by decide) rfl e26 ka_20 hC dX1_init_26 ?_
  obtain ⟨μ28, e28, h⟩ := Sat_bind h
  refine r_putP fk_X1_22 (Or.inr ⟨rfl, rfl, rfl, fl_X1_22⟩) rfl e28 dX1_init_28 ?_
  have hN := nz_tl (kq_pfP e28) hN
  refine r_aload_n dX1_init_31 0 rfl ?_
  refine r_iconst (v := 0) dX1_init_32 (by decide) ?_
  obtain ⟨n33, e33, h⟩ := Sat_bind h
  have hN := nz_A (by decide) e33 hN
  have hC := bud_of hN (by
    obtain ⟨x, h, hx⟩ := id h
    have hk : Gr (n33.2) (n33.2) := Gr.rfl
    refine bud_le (?_ : Gr _ ((fun (q : Mm) => q) x)) (hB x hx)
    obtain ⟨μ35, e35, h⟩ := bd h
    have hk := Gr.after (Gr.of (kq_pfP e35)) hk
    obtain ⟨n40, e40, h⟩ := bd h
    have hk := Gr.trans hk (gr_A (by decide) e40)
    obtain ⟨μ42, e42, h⟩ := bd h
    have hk := Gr.after (Gr.of (kq_pfP e42)) hk
    obtain ⟨μ47, e47, h⟩ := bd h
    have hk := Gr.after (Gr.of (kq_pfP e47)) hk
    obtain ⟨μ52, e52, h⟩ := bd h
    have hk := Gr.after (Gr.of (kq_pfP e52)) hk
    obtain ⟨μ57, e57, h⟩ := bd h
    have hk := Gr.after (Gr.of (kq_pfP e57)) hk
    have h := Option.some.inj h
    subst h
    exact hk)
  refine r_newarray (t := 20) (by decide) rfl e33 ka_20 hC dX1_init_33 ?_
  obtain ⟨μ35, e35, h⟩ := Sat_bind h
  refine r_putP fk_X1_25 (Or.inl rfl) rfl e35 dX1_init_35 ?_
  have hN := nz_tl (kq_pfP e35) hN
  refine r_aload_n dX1_init_38 0 rfl ?_
  refine r_iconst (v := 0) dX1_init_39 (by decide) ?_
  obtain ⟨n40, e40, h⟩ := Sat_bind h
  have hN := nz_A (by decide) e40 hN
  have hC := bud_of hN (by
    obtain ⟨x, h, hx⟩ := id h
    have hk : Gr (n40.2) (n40.2) := Gr.rfl
    refine bud_le (?_ : Gr _ ((fun (q : Mm) => q) x)) (hB x hx)
    obtain ⟨μ42, e42, h⟩ := bd h
    have hk := Gr.after (Gr.of (kq_pfP e42)) hk
    obtain ⟨μ47, e47, h⟩ := bd h
    have hk := Gr.after (Gr.of (kq_pfP e47)) hk
    obtain ⟨μ52, e52, h⟩ := bd h
    have hk := Gr.after (Gr.of (kq_pfP e52)) hk
    obtain ⟨μ57, e57, h⟩ := bd h
    have hk := Gr.after (Gr.of (kq_pfP e57)) hk
    have h := Option.some.inj h
    subst h
    exact hk)
  refine r_newarray (t := 20) (by decide) rfl e40 ka_20 hC dX1_init_40 ?_
  obtain ⟨μ42, e42, h⟩ := Sat_bind h
  refine r_putP fk_X1_28 (Or.inl rfl) rfl e42 dX1_init_42 ?_
  have hN := nz_tl (kq_pfP e42) hN
  refine r_aload_n dX1_init_45 0 rfl ?_
  refine r_aload_n dX1_init_46 1 rfl ?_
  obtain ⟨μ47, e47, h⟩ := Sat_bind h
  refine r_putP fk_X1_31 (Or.inl rfl) rfl e47 dX1_init_47 ?_
  have hN := nz_tl (kq_pfP e47) hN
  refine r_aload_n dX1_init_50 0 rfl ?_
  refine r_aload_n dX1_init_51 2 rfl ?_
  obtain ⟨μ52, e52, h⟩ := Sat_bind h
  refine r_putP fk_X1_35 (Or.inr ⟨rfl, rfl, rfl, fl_X1_35⟩) rfl e52 dX1_init_52 ?_
  have hN := nz_tl (kq_pfP e52) hN
  refine r_aload_n dX1_init_55 0 rfl ?_
  refine r_aload_n dX1_init_56 3 rfl ?_
  obtain ⟨μ57, e57, h⟩ := Sat_bind h
  refine r_putP fk_X1_39 (Or.inr ⟨rfl, rfl, rfl, fl_X1_39⟩) rfl e57 dX1_init_57 ?_
  have hN := nz_tl (kq_pfP e57) hN
  refine r_widen hC.1 hC.2 ?_
  exact r_vreturn rfl (by rw [← Sat_eq h]; exact ⟨rfl, rfl⟩) dX1_init_60
theorem dX3_init_0 : decode cX3_init 0 = .ok (.aload_n 0, 1) := by decide +kernel
theorem dX3_init_1 : decode cX3_init 1 = .ok (.invokespecial 3, 3) := by decide +kernel
theorem dX3_init_4 : decode cX3_init 4 = .ok (.aload_n 0, 1) := by decide +kernel
theorem dX3_init_5 : decode cX3_init 5 = .ok (.bipush 12, 2) := by decide +kernel
theorem dX3_init_7 : decode cX3_init 7 = .ok (.newarray .int, 2) := by decide +kernel
theorem dX3_init_9 : decode cX3_init 9 = .ok (.putfield 9, 3) := by decide +kernel
theorem dX3_init_12 : decode cX3_init 12 = .ok (.return_, 1) := by decide +kernel
noncomputable def f_X3_init (a0 : Nat) (μ : Mm) : Option Mm :=
  if (mm_K μ a0).1 = 4 then (nw_A 20 (12 : Int32) μ).bind fun n7 => (pf_P 4 0 a0 n7.1 n7.2).bind fun μ9 => some μ9 else none
abbrev Rn_X3_init (G : Gv) (Q : Option Value → Mm → Prop) (mc ms c s : Nat) (pc : Nat) (lv : List (Nat × Value)) (st : List Value) (μ : Mm) : Prop := Rn G RX3 cX3_init 1 none "<init>" (rmd 1 mc ms) (Zm G mc ms Q) c s pc lv st μ
theorem t_X3_init {a0 : Nat} {μ : Mm} {x : Mm} (h : f_X3_init a0 μ = some x) : Gr μ ((fun (q : Mm) => q) x) := by
  have hk : Gr μ μ := Gr.rfl
  obtain ⟨_, h⟩ := ite_p h
  obtain ⟨n7, e7, h⟩ := bd h
  have hk := Gr.trans hk (gr_A (by decide) e7)
  obtain ⟨μ9, e9, h⟩ := bd h
  have hk := Gr.after (Gr.of (kq_pfP e9)) hk
  have h := Option.some.inj h
  subst h
  exact hk
set_option maxRecDepth 100000 in
set_option maxHeartbeats 4000000 in
theorem m_X3_init {G : Gv} (a0 : Nat) (μ : Mm) {r : Mm} (hx : f_X3_init a0 μ = some r) (mc ms : Nat) (hn : mm_N r ≤ mm_N μ + mc) (hz : mm_Z r ≤ mm_Z μ + ms) : Mt G yX3_init cX3_init 1 none 1 mc ms [.ref a0] μ (fun v μ' => v = none ∧ μ' = r) := by
  have hN : Nz μ μ 0 0 := ⟨rfl, rfl⟩
  have hC : 0 ≤ mc ∧ 0 ≤ ms := ⟨Nat.zero_le _, Nat.zero_le _⟩
  have hB : ∀ x : Mm, x = r → mm_N ((fun (q : Mm) => q) x) ≤ mm_N μ + mc ∧ mm_Z ((fun (q : Mm) => q) x) ≤ mm_Z μ + ms := fun x e => by subst e; exact ⟨hn, hz⟩
  refine Mt.of (by decide) (Nat.le_of_ble_eq_true rfl) ?_
  show Rn_X3_init G (fun v μ' => v = none ∧ μ' = r) mc ms 0 0 0 [(0, .ref a0)] [] μ
  obtain ⟨_, h⟩ := Sat_ifp (show Sat (f_X3_init a0 μ) (fun x => x = r) from ⟨_, hx, rfl⟩)
  refine r_aload_n dX3_init_0 0 rfl ?_
  refine r_objInit lo_X3_3 lo_in lo_co (Nat.le_of_ble_eq_true rfl) ⟨Nat.le_of_ble_eq_true rfl, Nat.le_of_ble_eq_true rfl⟩ dX3_init_1 ?_
  refine r_aload_n dX3_init_4 0 rfl ?_
  refine r_bipush (v := 12) dX3_init_5 (by decide) ?_
  obtain ⟨n7, e7, h⟩ := Sat_bind h
  have hN := nz_A (by decide) e7 hN
  have hC := bud_of hN (by
    obtain ⟨x, h, hx⟩ := id h
    have hk : Gr (n7.2) (n7.2) := Gr.rfl
    refine bud_le (?_ : Gr _ ((fun (q : Mm) => q) x)) (hB x hx)
    obtain ⟨μ9, e9, h⟩ := bd h
    have hk := Gr.after (Gr.of (kq_pfP e9)) hk
    have h := Option.some.inj h
    subst h
    exact hk)
  refine r_newarray (t := 20) (by decide) rfl e7 ka_20 hC dX3_init_7 ?_
  obtain ⟨μ9, e9, h⟩ := Sat_bind h
  refine r_putP fk_X3_9 (Or.inr ⟨rfl, rfl, rfl, fl_X3_9⟩) rfl e9 dX3_init_9 ?_
  have hN := nz_tl (kq_pfP e9) hN
  refine r_widen hC.1 hC.2 ?_
  exact r_vreturn rfl (by rw [← Sat_eq h]; exact ⟨rfl, rfl⟩) dX3_init_12
theorem dX4_init_0 : decode cX4_init 0 = .ok (.aload_n 0, 1) := by decide +kernel
theorem dX4_init_1 : decode cX4_init 1 = .ok (.invokespecial 3, 3) := by decide +kernel
theorem dX4_init_4 : decode cX4_init 4 = .ok (.aload_n 0, 1) := by decide +kernel
theorem dX4_init_5 : decode cX4_init 5 = .ok (.bipush 28, 2) := by decide +kernel
theorem dX4_init_7 : decode cX4_init 7 = .ok (.newarray .int, 2) := by decide +kernel
theorem dX4_init_9 : decode cX4_init 9 = .ok (.putfield 9, 3) := by decide +kernel
theorem dX4_init_12 : decode cX4_init 12 = .ok (.aload_n 0, 1) := by decide +kernel
theorem dX4_init_13 : decode cX4_init 13 = .ok (.bipush 28, 2) := by decide +kernel
theorem dX4_init_15 : decode cX4_init 15 = .ok (.newarray .int, 2) := by decide +kernel
theorem dX4_init_17 : decode cX4_init 17 = .ok (.putfield 15, 3) := by decide +kernel
theorem dX4_init_20 : decode cX4_init 20 = .ok (.aload_n 0, 1) := by decide +kernel
theorem dX4_init_21 : decode cX4_init 21 = .ok (.bipush 28, 2) := by decide +kernel
theorem dX4_init_23 : decode cX4_init 23 = .ok (.newarray .int, 2) := by decide +kernel
theorem dX4_init_25 : decode cX4_init 25 = .ok (.putfield 18, 3) := by decide +kernel
theorem dX4_init_28 : decode cX4_init 28 = .ok (.aload_n 0, 1) := by decide +kernel
theorem dX4_init_29 : decode cX4_init 29 = .ok (.bipush 8, 2) := by decide +kernel
theorem dX4_init_31 : decode cX4_init 31 = .ok (.newarray .int, 2) := by decide +kernel
theorem dX4_init_33 : decode cX4_init 33 = .ok (.putfield 21, 3) := by decide +kernel
theorem dX4_init_36 : decode cX4_init 36 = .ok (.aload_n 0, 1) := by decide +kernel
theorem dX4_init_37 : decode cX4_init 37 = .ok (.bipush 8, 2) := by decide +kernel
theorem dX4_init_39 : decode cX4_init 39 = .ok (.newarray .int, 2) := by decide +kernel
theorem dX4_init_41 : decode cX4_init 41 = .ok (.putfield 24, 3) := by decide +kernel
theorem dX4_init_44 : decode cX4_init 44 = .ok (.aload_n 0, 1) := by decide +kernel
theorem dX4_init_45 : decode cX4_init 45 = .ok (.bipush 8, 2) := by decide +kernel
theorem dX4_init_47 : decode cX4_init 47 = .ok (.newarray .int, 2) := by decide +kernel
theorem dX4_init_49 : decode cX4_init 49 = .ok (.putfield 27, 3) := by decide +kernel
theorem dX4_init_52 : decode cX4_init 52 = .ok (.aload_n 0, 1) := by decide +kernel
theorem dX4_init_53 : decode cX4_init 53 = .ok (.bipush 8, 2) := by decide +kernel
theorem dX4_init_55 : decode cX4_init 55 = .ok (.newarray .int, 2) := by decide +kernel
theorem dX4_init_57 : decode cX4_init 57 = .ok (.putfield 30, 3) := by decide +kernel
theorem dX4_init_60 : decode cX4_init 60 = .ok (.aload_n 0, 1) := by decide +kernel
theorem dX4_init_61 : decode cX4_init 61 = .ok (.aload_n 1, 1) := by decide +kernel
theorem dX4_init_62 : decode cX4_init 62 = .ok (.putfield 33, 3) := by decide +kernel
theorem dX4_init_65 : decode cX4_init 65 = .ok (.return_, 1) := by decide +kernel
noncomputable def f_X4_init (a0 : Nat) (l1 : Nat) (μ : Mm) : Option Mm :=
  if (mm_K μ a0).1 = 5 then (nw_A 20 (28 : Int32) μ).bind fun n7 => (pf_P 5 0 a0 n7.1 n7.2).bind fun μ9 => (nw_A 20 (28 : Int32) μ9).bind fun n15 => (pf_P 5 1 a0 n15.1 n15.2).bind fun μ17 => (nw_A 20 (28 : Int32) μ17).bind fun n23 => (pf_P 5 2 a0 n23.1 n23.2).bind fun μ25 => (nw_A 20 (8 : Int32) μ25).bind fun n31 => (pf_P 5 3 a0 n31.1 n31.2).bind fun μ33 => (nw_A 20 (8 : Int32) μ33).bind fun n39 => (pf_P 5 4 a0 n39.1 n39.2).bind fun μ41 => (nw_A 20 (8 : Int32) μ41).bind fun n47 => (pf_P 5 5 a0 n47.1 n47.2).bind fun μ49 => (nw_A 20 (8 : Int32) μ49).bind fun n55 => (pf_P 5 6 a0 n55.1 n55.2).bind fun μ57 => (pf_P 5 7 a0 l1 μ57).bind fun μ62 => some μ62 else none
abbrev Rn_X4_init (G : Gv) (Q : Option Value → Mm → Prop) (mc ms c s : Nat) (pc : Nat) (lv : List (Nat × Value)) (st : List Value) (μ : Mm) : Prop := Rn G RX4 cX4_init 2 none "<init>" (rmd 1 mc ms) (Zm G mc ms Q) c s pc lv st μ
theorem t_X4_init {a0 : Nat} {l1 : Nat} {μ : Mm} {x : Mm} (h : f_X4_init a0 l1 μ = some x) : Gr μ ((fun (q : Mm) => q) x) := by
  have hk : Gr μ μ := Gr.rfl
  obtain ⟨_, h⟩ := ite_p h
  obtain ⟨n7, e7, h⟩ := bd h
  have hk := Gr.trans hk (gr_A (by decide) e7)
  obtain ⟨μ9, e9, h⟩ := bd h
  have hk := Gr.after (Gr.of (kq_pfP e9)) hk
  obtain ⟨n15, e15, h⟩ := bd h
  have hk := Gr.trans hk (gr_A (by decide) e15)
  obtain ⟨μ17, e17, h⟩ := bd h
  have hk := Gr.after (Gr.of (kq_pfP e17)) hk
  obtain ⟨n23, e23, h⟩ := bd h
  have hk := Gr.trans hk (gr_A (by decide) e23)
  obtain ⟨μ25, e25, h⟩ := bd h
  have hk := Gr.after (Gr.of (kq_pfP e25)) hk
  obtain ⟨n31, e31, h⟩ := bd h
  have hk := Gr.trans hk (gr_A (by decide) e31)
  obtain ⟨μ33, e33, h⟩ := bd h
  have hk := Gr.after (Gr.of (kq_pfP e33)) hk
  obtain ⟨n39, e39, h⟩ := bd h
  have hk := Gr.trans hk (gr_A (by decide) e39)
  obtain ⟨μ41, e41, h⟩ := bd h
  have hk := Gr.after (Gr.of (kq_pfP e41)) hk
  obtain ⟨n47, e47, h⟩ := bd h
  have hk := Gr.trans hk (gr_A (by decide) e47)
  obtain ⟨μ49, e49, h⟩ := bd h
  have hk := Gr.after (Gr.of (kq_pfP e49)) hk
  obtain ⟨n55, e55, h⟩ := bd h
  have hk := Gr.trans hk (gr_A (by decide) e55)
  obtain ⟨μ57, e57, h⟩ := bd h
  have hk := Gr.after (Gr.of (kq_pfP e57)) hk
  obtain ⟨μ62, e62, h⟩ := bd h
  have hk := Gr.after (Gr.of (kq_pfP e62)) hk
  have h := Option.some.inj h
  subst h
  exact hk
set_option maxRecDepth 100000 in
set_option maxHeartbeats 4000000 in
theorem m_X4_init {G : Gv} (a0 : Nat) (l1 : Nat) (μ : Mm) {r : Mm} (hx : f_X4_init a0 l1 μ = some r) (mc ms : Nat) (hn : mm_N r ≤ mm_N μ + mc) (hz : mm_Z r ≤ mm_Z μ + ms) : Mt G yX4_init cX4_init 2 none 1 mc ms [.ref a0, .ref l1] μ (fun v μ' => v = none ∧ μ' = r) := by
  have hN : Nz μ μ 0 0 := ⟨rfl, rfl⟩
  have hC : 0 ≤ mc ∧ 0 ≤ ms := ⟨Nat.zero_le _, Nat.zero_le _⟩
  have hB : ∀ x : Mm, x = r → mm_N ((fun (q : Mm) => q) x) ≤ mm_N μ + mc ∧ mm_Z ((fun (q : Mm) => q) x) ≤ mm_Z μ + ms := fun x e => by subst e; exact ⟨hn, hz⟩
  refine Mt.of (by decide) (Nat.le_of_ble_eq_true rfl) ?_
  show Rn_X4_init G (fun v μ' => v = none ∧ μ' = r) mc ms 0 0 0 [(0, .ref a0), (1, .ref l1)] [] μ
  obtain ⟨_, h⟩ := Sat_ifp (show Sat (f_X4_init a0 l1 μ) (fun x => x = r) from ⟨_, hx, rfl⟩)
  refine r_aload_n dX4_init_0 0 rfl ?_
  refine r_objInit lo_X4_3 lo_in lo_co (Nat.le_of_ble_eq_true rfl) ⟨Nat.le_of_ble_eq_true rfl, Nat.le_of_ble_eq_true rfl⟩ dX4_init_1 ?_
  refine r_aload_n dX4_init_4 0 rfl ?_
  refine r_bipush (v := 28) dX4_init_5 (by decide) ?_
  obtain ⟨n7, e7, h⟩ := Sat_bind h
  have hN := nz_A (by decide) e7 hN
  have hC := bud_of hN (by
    obtain ⟨x, h, hx⟩ := id h
    have hk : Gr (n7.2) (n7.2) := Gr.rfl
    refine bud_le (?_ : Gr _ ((fun (q : Mm) => q) x)) (hB x hx)
    obtain ⟨μ9, e9, h⟩ := bd h
    have hk := Gr.after (Gr.of (kq_pfP e9)) hk
    obtain ⟨n15, e15, h⟩ := bd h
    have hk := Gr.trans hk (gr_A (by decide) e15)
    obtain ⟨μ17, e17, h⟩ := bd h
    have hk := Gr.after (Gr.of (kq_pfP e17)) hk
    obtain ⟨n23, e23, h⟩ := bd h
    have hk := Gr.trans hk (gr_A (by decide) e23)
    obtain ⟨μ25, e25, h⟩ := bd h
    have hk := Gr.after (Gr.of (kq_pfP e25)) hk
    obtain ⟨n31, e31, h⟩ := bd h
    have hk := Gr.trans hk (gr_A (by decide) e31)
    obtain ⟨μ33, e33, h⟩ := bd h
    have hk := Gr.after (Gr.of (kq_pfP e33)) hk
    obtain ⟨n39, e39, h⟩ := bd h
    have hk := Gr.trans hk (gr_A (by decide) e39)
    obtain ⟨μ41, e41, h⟩ := bd h
    have hk := Gr.after (Gr.of (kq_pfP e41)) hk
    obtain ⟨n47, e47, h⟩ := bd h
    have hk := Gr.trans hk (gr_A (by decide) e47)
    obtain ⟨μ49, e49, h⟩ := bd h
    have hk := Gr.after (Gr.of (kq_pfP e49)) hk
    obtain ⟨n55, e55, h⟩ := bd h
    have hk := Gr.trans hk (gr_A (by decide) e55)
    obtain ⟨μ57, e57, h⟩ := bd h
    have hk := Gr.after (Gr.of (kq_pfP e57)) hk
    obtain ⟨μ62, e62, h⟩ := bd h
    have hk := Gr.after (Gr.of (kq_pfP e62)) hk
    have h := Option.some.inj h
    subst h
    exact hk)
  refine r_newarray (t := 20) (by decide) rfl e7 ka_20 hC dX4_init_7 ?_
  obtain ⟨μ9, e9, h⟩ := Sat_bind h
  refine r_putP fk_X4_9 (Or.inr ⟨rfl, rfl, rfl, fl_X4_9⟩) rfl e9 dX4_init_9 ?_
  have hN := nz_tl (kq_pfP e9) hN
  refine r_aload_n dX4_init_12 0 rfl ?_
  refine r_bipush (v := 28) dX4_init_13 (by decide) ?_
  obtain ⟨n15, e15, h⟩ := Sat_bind h
  have hN := nz_A (by decide) e15 hN
  have hC := bud_of hN (by
    obtain ⟨x, h, hx⟩ := id h
    have hk : Gr (n15.2) (n15.2) := Gr.rfl
    refine bud_le (?_ : Gr _ ((fun (q : Mm) => q) x)) (hB x hx)
    obtain ⟨μ17, e17, h⟩ := bd h
    have hk := Gr.after (Gr.of (kq_pfP e17)) hk
    obtain ⟨n23, e23, h⟩ := bd h
    have hk := Gr.trans hk (gr_A (by decide) e23)
    obtain ⟨μ25, e25, h⟩ := bd h
    have hk := Gr.after (Gr.of (kq_pfP e25)) hk
    obtain ⟨n31, e31, h⟩ := bd h
    have hk := Gr.trans hk (gr_A (by decide) e31)
    obtain ⟨μ33, e33, h⟩ := bd h
    have hk := Gr.after (Gr.of (kq_pfP e33)) hk
    obtain ⟨n39, e39, h⟩ := bd h
    have hk := Gr.trans hk (gr_A (by decide) e39)
    obtain ⟨μ41, e41, h⟩ := bd h
    have hk := Gr.after (Gr.of (kq_pfP e41)) hk
    obtain ⟨n47, e47, h⟩ := bd h
    have hk := Gr.trans hk (gr_A (by decide) e47)
    obtain ⟨μ49, e49, h⟩ := bd h
    have hk := Gr.after (Gr.of (kq_pfP e49)) hk
    obtain ⟨n55, e55, h⟩ := bd h
    have hk := Gr.trans hk (gr_A (by decide) e55)
    obtain ⟨μ57, e57, h⟩ := bd h
    have hk := Gr.after (Gr.of (kq_pfP e57)) hk
    obtain ⟨μ62, e62, h⟩ := bd h
    have hk := Gr.after (Gr.of (kq_pfP e62)) hk
    have h := Option.some.inj h
    subst h
    exact hk)
  refine r_newarray (t := 20) (by decide) rfl e15 ka_20 hC dX4_init_15 ?_
  obtain ⟨μ17, e17, h⟩ := Sat_bind h
  refine r_putP fk_X4_15 (Or.inr ⟨rfl, rfl, rfl, fl_X4_15⟩) rfl e17 dX4_init_17 ?_
  have hN := nz_tl (kq_pfP e17) hN
  refine r_aload_n dX4_init_20 0 rfl ?_
  refine r_bipush (v := 28) dX4_init_21 (by decide) ?_
  obtain ⟨n23, e23, h⟩ := Sat_bind h
  have hN := nz_A (by decide) e23 hN
  have hC := bud_of hN (by
    obtain ⟨x, h, hx⟩ := id h
    have hk : Gr (n23.2) (n23.2) := Gr.rfl
    refine bud_le (?_ : Gr _ ((fun (q : Mm) => q) x)) (hB x hx)
    obtain ⟨μ25, e25, h⟩ := bd h
    have hk := Gr.after (Gr.of (kq_pfP e25)) hk
    obtain ⟨n31, e31, h⟩ := bd h
    have hk := Gr.trans hk (gr_A (by decide) e31)
    obtain ⟨μ33, e33, h⟩ := bd h
    have hk := Gr.after (Gr.of (kq_pfP e33)) hk
    obtain ⟨n39, e39, h⟩ := bd h
    have hk := Gr.trans hk (gr_A (by decide) e39)
    obtain ⟨μ41, e41, h⟩ := bd h
    have hk := Gr.after (Gr.of (kq_pfP e41)) hk
    obtain ⟨n47, e47, h⟩ := bd h
    have hk := Gr.trans hk (gr_A (by decide) e47)
    obtain ⟨μ49, e49, h⟩ := bd h
    have hk := Gr.after (Gr.of (kq_pfP e49)) hk
    obtain ⟨n55, e55, h⟩ := bd h
    have hk := Gr.trans hk (gr_A (by decide) e55)
    obtain ⟨μ57, e57, h⟩ := bd h
    have hk := Gr.after (Gr.of (kq_pfP e57)) hk
    obtain ⟨μ62, e62, h⟩ := bd h
    have hk := Gr.after (Gr.of (kq_pfP e62)) hk
    have h := Option.some.inj h
    subst h
    exact hk)
  refine r_newarray (t := 20) (by decide) rfl e23 ka_20 hC dX4_init_23 ?_
  obtain ⟨μ25, e25, h⟩ := Sat_bind h
  refine r_putP fk_X4_18 (Or.inr ⟨rfl, rfl, rfl, fl_X4_18⟩) rfl e25 dX4_init_25 ?_
  have hN := nz_tl (kq_pfP e25) hN
  refine r_aload_n dX4_init_28 0 rfl ?_
  refine r_bipush (v := 8) dX4_init_29 (by decide) ?_
  obtain ⟨n31, e31, h⟩ := Sat_bind h
  have hN := nz_A (by decide) e31 hN
  have hC := bud_of hN (by
    obtain ⟨x, h, hx⟩ := id h
    have hk : Gr (n31.2) (n31.2) := Gr.rfl
    refine bud_le (?_ : Gr _ ((fun (q : Mm) => q) x)) (hB x hx)
    obtain ⟨μ33, e33, h⟩ := bd h
    have hk := Gr.after (Gr.of (kq_pfP e33)) hk
    obtain ⟨n39, e39, h⟩ := bd h
    have hk := Gr.trans hk (gr_A (by decide) e39)
    obtain ⟨μ41, e41, h⟩ := bd h
    have hk := Gr.after (Gr.of (kq_pfP e41)) hk
    obtain ⟨n47, e47, h⟩ := bd h
    have hk := Gr.trans hk (gr_A (by decide) e47)
    obtain ⟨μ49, e49, h⟩ := bd h
    have hk := Gr.after (Gr.of (kq_pfP e49)) hk
    obtain ⟨n55, e55, h⟩ := bd h
    have hk := Gr.trans hk (gr_A (by decide) e55)
    obtain ⟨μ57, e57, h⟩ := bd h
    have hk := Gr.after (Gr.of (kq_pfP e57)) hk
    obtain ⟨μ62, e62, h⟩ := bd h
    have hk := Gr.after (Gr.of (kq_pfP e62)) hk
    have h := Option.some.inj h
    subst h
    exact hk)
  refine r_newarray (t := 20) (by decide) rfl e31 ka_20 hC dX4_init_31 ?_
  obtain ⟨μ33, e33, h⟩ := Sat_bind h
  refine r_putP fk_X4_21 (Or.inr ⟨rfl, rfl, rfl, fl_X4_21⟩) rfl e33 dX4_init_33 ?_
  have hN := nz_tl (kq_pfP e33) hN
  refine r_aload_n dX4_init_36 0 rfl ?_
  refine r_bipush (v := 8) dX4_init_37 (by decide) ?_
  obtain ⟨n39, e39, h⟩ := Sat_bind h
  have hN := nz_A (by decide) e39 hN
  have hC := bud_of hN (by
    obtain ⟨x, h, hx⟩ := id h
    have hk : Gr (n39.2) (n39.2) := Gr.rfl
    refine bud_le (?_ : Gr _ ((fun (q : Mm) => q) x)) (hB x hx)
    obtain ⟨μ41, e41, h⟩ := bd h
    have hk := Gr.after (Gr.of (kq_pfP e41)) hk
    obtain ⟨n47, e47, h⟩ := bd h
    have hk := Gr.trans hk (gr_A (by decide) e47)
    obtain ⟨μ49, e49, h⟩ := bd h
    have hk := Gr.after (Gr.of (kq_pfP e49)) hk
    obtain ⟨n55, e55, h⟩ := bd h
    have hk := Gr.trans hk (gr_A (by decide) e55)
    obtain ⟨μ57, e57, h⟩ := bd h
    have hk := Gr.after (Gr.of (kq_pfP e57)) hk
    obtain ⟨μ62, e62, h⟩ := bd h
    have hk := Gr.after (Gr.of (kq_pfP e62)) hk
    have h := Option.some.inj h
    subst h
    exact hk)
  refine r_newarray (t := 20) (by decide) rfl e39 ka_20 hC dX4_init_39 ?_
  obtain ⟨μ41, e41, h⟩ := Sat_bind h
  refine r_putP fk_X4_24 (Or.inr ⟨rfl, rfl, rfl, fl_X4_24⟩) rfl e41 dX4_init_41 ?_
  have hN := nz_tl (kq_pfP e41) hN
  refine r_aload_n dX4_init_44 0 rfl ?_
  refine r_bipush (v := 8) dX4_init_45 (by decide) ?_
  obtain ⟨n47, e47, h⟩ := Sat_bind h
  have hN := nz_A (by decide) e47 hN
  have hC := bud_of hN (by
    obtain ⟨x, h, hx⟩ := id h
    have hk : Gr (n47.2) (n47.2) := Gr.rfl
    refine bud_le (?_ : Gr _ ((fun (q : Mm) => q) x)) (hB x hx)
    obtain ⟨μ49, e49, h⟩ := bd h
    have hk := Gr.after (Gr.of (kq_pfP e49)) hk
    obtain ⟨n55, e55, h⟩ := bd h
    have hk := Gr.trans hk (gr_A (by decide) e55)
    obtain ⟨μ57, e57, h⟩ := bd h
    have hk := Gr.after (Gr.of (kq_pfP e57)) hk
    obtain ⟨μ62, e62, h⟩ := bd h
    have hk := Gr.after (Gr.of (kq_pfP e62)) hk
    have h := Option.some.inj h
    subst h
    exact hk)
  refine r_newarray (t := 20) (by decide) rfl e47 ka_20 hC dX4_init_47 ?_
  obtain ⟨μ49, e49, h⟩ := Sat_bind h
  refine r_putP fk_X4_27 (Or.inr ⟨rfl, rfl, rfl, fl_X4_27⟩) rfl e49 dX4_init_49 ?_
  have hN := nz_tl (kq_pfP e49) hN
  refine r_aload_n dX4_init_52 0 rfl ?_
  refine r_bipush (v := 8) dX4_init_53 (by decide) ?_
  obtain ⟨n55, e55, h⟩ := Sat_bind h
  have hN := nz_A (by decide) e55 hN
  have hC := bud_of hN (by
    obtain ⟨x, h, hx⟩ := id h
    have hk : Gr (n55.2) (n55.2) := Gr.rfl
    refine bud_le (?_ : Gr _ ((fun (q : Mm) => q) x)) (hB x hx)
    obtain ⟨μ57, e57, h⟩ := bd h
    have hk := Gr.after (Gr.of (kq_pfP e57)) hk
    obtain ⟨μ62, e62, h⟩ := bd h
    have hk := Gr.after (Gr.of (kq_pfP e62)) hk
    have h := Option.some.inj h
    subst h
    exact hk)
  refine r_newarray (t := 20) (by decide) rfl e55 ka_20 hC dX4_init_55 ?_
  obtain ⟨μ57, e57, h⟩ := Sat_bind h
  refine r_putP fk_X4_30 (Or.inr ⟨rfl, rfl, rfl, fl_X4_30⟩) rfl e57 dX4_init_57 ?_
  have hN := nz_tl (kq_pfP e57) hN
  refine r_aload_n dX4_init_60 0 rfl ?_
  refine r_aload_n dX4_init_61 1 rfl ?_
  obtain ⟨μ62, e62, h⟩ := Sat_bind h
  refine r_putP fk_X4_33 (Or.inl rfl) rfl e62 dX4_init_62 ?_
  have hN := nz_tl (kq_pfP e62) hN
  refine r_widen hC.1 hC.2 ?_
  exact r_vreturn rfl (by rw [← Sat_eq h]; exact ⟨rfl, rfl⟩) dX4_init_65
theorem dX5_init_0 : decode cX5_init 0 = .ok (.aload_n 0, 1) := by decide +kernel
theorem dX5_init_1 : decode cX5_init 1 = .ok (.invokespecial 3, 3) := by decide +kernel
theorem dX5_init_4 : decode cX5_init 4 = .ok (.aload_n 0, 1) := by decide +kernel
theorem dX5_init_5 : decode cX5_init 5 = .ok (.sipush 900, 3) := by decide +kernel
theorem dX5_init_8 : decode cX5_init 8 = .ok (.newarray .int, 2) := by decide +kernel
theorem dX5_init_10 : decode cX5_init 10 = .ok (.putfield 11, 3) := by decide +kernel
theorem dX5_init_13 : decode cX5_init 13 = .ok (.return_, 1) := by decide +kernel
noncomputable def f_X5_init (a0 : Nat) (μ : Mm) : Option Mm :=
  if (mm_K μ a0).1 = 6 then (nw_A 20 (900 : Int32) μ).bind fun n8 => (pf_P 6 0 a0 n8.1 n8.2).bind fun μ10 => some μ10 else none
abbrev Rn_X5_init (G : Gv) (Q : Option Value → Mm → Prop) (mc ms c s : Nat) (pc : Nat) (lv : List (Nat × Value)) (st : List Value) (μ : Mm) : Prop := Rn G RX5 cX5_init 1 none "<init>" (rmd 1 mc ms) (Zm G mc ms Q) c s pc lv st μ
theorem t_X5_init {a0 : Nat} {μ : Mm} {x : Mm} (h : f_X5_init a0 μ = some x) : Gr μ ((fun (q : Mm) => q) x) := by
  have hk : Gr μ μ := Gr.rfl
  obtain ⟨_, h⟩ := ite_p h
  obtain ⟨n8, e8, h⟩ := bd h
  have hk := Gr.trans hk (gr_A (by decide) e8)
  obtain ⟨μ10, e10, h⟩ := bd h
  have hk := Gr.after (Gr.of (kq_pfP e10)) hk
  have h := Option.some.inj h
  subst h
  exact hk
set_option maxRecDepth 100000 in
set_option maxHeartbeats 4000000 in
theorem m_X5_init {G : Gv} (a0 : Nat) (μ : Mm) {r : Mm} (hx : f_X5_init a0 μ = some r) (mc ms : Nat) (hn : mm_N r ≤ mm_N μ + mc) (hz : mm_Z r ≤ mm_Z μ + ms) : Mt G yX5_init cX5_init 1 none 1 mc ms [.ref a0] μ (fun v μ' => v = none ∧ μ' = r) := by
  have hN : Nz μ μ 0 0 := ⟨rfl, rfl⟩
  have hC : 0 ≤ mc ∧ 0 ≤ ms := ⟨Nat.zero_le _, Nat.zero_le _⟩
  have hB : ∀ x : Mm, x = r → mm_N ((fun (q : Mm) => q) x) ≤ mm_N μ + mc ∧ mm_Z ((fun (q : Mm) => q) x) ≤ mm_Z μ + ms := fun x e => by subst e; exact ⟨hn, hz⟩
  refine Mt.of (by decide) (Nat.le_of_ble_eq_true rfl) ?_
  show Rn_X5_init G (fun v μ' => v = none ∧ μ' = r) mc ms 0 0 0 [(0, .ref a0)] [] μ
  obtain ⟨_, h⟩ := Sat_ifp (show Sat (f_X5_init a0 μ) (fun x => x = r) from ⟨_, hx, rfl⟩)
  refine r_aload_n dX5_init_0 0 rfl ?_
  refine r_objInit lo_X5_3 lo_in lo_co (Nat.le_of_ble_eq_true rfl) ⟨Nat.le_of_ble_eq_true rfl, Nat.le_of_ble_eq_true rfl⟩ dX5_init_1 ?_
  refine r_aload_n dX5_init_4 0 rfl ?_
  refine r_sipush (v := 900) dX5_init_5 (by decide) ?_
  obtain ⟨n8, e8, h⟩ := Sat_bind h
  have hN := nz_A (by decide) e8 hN
  have hC := bud_of hN (by
    obtain ⟨x, h, hx⟩ := id h
    have hk : Gr (n8.2) (n8.2) := Gr.rfl
    refine bud_le (?_ : Gr _ ((fun (q : Mm) => q) x)) (hB x hx)
    obtain ⟨μ10, e10, h⟩ := bd h
    have hk := Gr.after (Gr.of (kq_pfP e10)) hk
    have h := Option.some.inj h
    subst h
    exact hk)
  refine r_newarray (t := 20) (by decide) rfl e8 ka_20 hC dX5_init_8 ?_
  obtain ⟨μ10, e10, h⟩ := Sat_bind h
  refine r_putP fk_X5_11 (Or.inr ⟨rfl, rfl, rfl, fl_X5_11⟩) rfl e10 dX5_init_10 ?_
  have hN := nz_tl (kq_pfP e10) hN
  refine r_widen hC.1 hC.2 ?_
  exact r_vreturn rfl (by rw [← Sat_eq h]; exact ⟨rfl, rfl⟩) dX5_init_13
theorem dX2_init_0 : decode cX2_init 0 = .ok (.aload_n 0, 1) := by decide +kernel
theorem dX2_init_1 : decode cX2_init 1 = .ok (.invokespecial 3, 3) := by decide +kernel
theorem dX2_init_4 : decode cX2_init 4 = .ok (.aload_n 0, 1) := by decide +kernel
theorem dX2_init_5 : decode cX2_init 5 = .ok (.iconst 0, 1) := by decide +kernel
theorem dX2_init_6 : decode cX2_init 6 = .ok (.iload_n 1, 1) := by decide +kernel
theorem dX2_init_7 : decode cX2_init 7 = .ok (.invokestatic 9, 3) := by decide +kernel
theorem dX2_init_10 : decode cX2_init 10 = .ok (.iconst 4, 1) := by decide +kernel
theorem dX2_init_11 : decode cX2_init 11 = .ok (.imul, 1) := by decide +kernel
theorem dX2_init_12 : decode cX2_init 12 = .ok (.newarray .int, 2) := by decide +kernel
theorem dX2_init_14 : decode cX2_init 14 = .ok (.putfield 17, 3) := by decide +kernel
theorem dX2_init_17 : decode cX2_init 17 = .ok (.return_, 1) := by decide +kernel
noncomputable def f_X2_init (a0 : Nat) (l1 : Int32) (μ : Mm) : Option Mm :=
  if (mm_K μ a0).1 = 3 then (nw_A 20 ((if (0 : Int32) < l1 then l1 else (0 : Int32)) * (4 : Int32)) μ).bind fun n12 => (pf_P 3 0 a0 n12.1 n12.2).bind fun μ14 => some μ14 else none
abbrev Rn_X2_init (G : Gv) (Q : Option Value → Mm → Prop) (mc ms c s : Nat) (pc : Nat) (lv : List (Nat × Value)) (st : List Value) (μ : Mm) : Prop := Rn G RX2 cX2_init 2 none "<init>" (rmd 1 mc ms) (Zm G mc ms Q) c s pc lv st μ
theorem t_X2_init {a0 : Nat} {l1 : Int32} {μ : Mm} {x : Mm} (h : f_X2_init a0 l1 μ = some x) : Gr μ ((fun (q : Mm) => q) x) := by
  have hk : Gr μ μ := Gr.rfl
  obtain ⟨_, h⟩ := ite_p h
  obtain ⟨n12, e12, h⟩ := bd h
  have hk := Gr.trans hk (gr_A (by decide) e12)
  obtain ⟨μ14, e14, h⟩ := bd h
  have hk := Gr.after (Gr.of (kq_pfP e14)) hk
  have h := Option.some.inj h
  subst h
  exact hk
set_option maxRecDepth 100000 in
set_option maxHeartbeats 4000000 in
theorem m_X2_init {G : Gv} (a0 : Nat) (l1 : Int32) (μ : Mm) {r : Mm} (hx : f_X2_init a0 l1 μ = some r) (mc ms : Nat) (hn : mm_N r ≤ mm_N μ + mc) (hz : mm_Z r ≤ mm_Z μ + ms) : Mt G yX2_init cX2_init 2 none 1 mc ms [.ref a0, .int l1] μ (fun v μ' => v = none ∧ μ' = r) := by
  have hN : Nz μ μ 0 0 := ⟨rfl, rfl⟩
  have hC : 0 ≤ mc ∧ 0 ≤ ms := ⟨Nat.zero_le _, Nat.zero_le _⟩
  have hB : ∀ x : Mm, x = r → mm_N ((fun (q : Mm) => q) x) ≤ mm_N μ + mc ∧ mm_Z ((fun (q : Mm) => q) x) ≤ mm_Z μ + ms := fun x e => by subst e; exact ⟨hn, hz⟩
  refine Mt.of (by decide) (Nat.le_of_ble_eq_true rfl) ?_
  show Rn_X2_init G (fun v μ' => v = none ∧ μ' = r) mc ms 0 0 0 [(0, .ref a0), (1, .int l1)] [] μ
  obtain ⟨_, h⟩ := Sat_ifp (show Sat (f_X2_init a0 l1 μ) (fun x => x = r) from ⟨_, hx, rfl⟩)
  refine r_aload_n dX2_init_0 0 rfl ?_
  refine r_objInit lo_X2_3 lo_in lo_co (Nat.le_of_ble_eq_true rfl) ⟨Nat.le_of_ble_eq_true rfl, Nat.le_of_ble_eq_true rfl⟩ dX2_init_1 ?_
  refine r_aload_n dX2_init_4 0 rfl ?_
  refine r_iconst (v := 0) dX2_init_5 (by decide) ?_
  refine r_iload_n dX2_init_6 1 rfl ?_
  refine r_mmax mmax_X2_9 mx_st_max mx_ii mx_co_max (Nat.le_of_ble_eq_true rfl) ⟨Nat.le_of_ble_eq_true rfl, Nat.le_of_ble_eq_true rfl⟩ hC dX2_init_7 ?_
  refine r_iconst (v := 4) dX2_init_10 (by decide) ?_
  refine r_imul dX2_init_11 ?_
  obtain ⟨n12, e12, h⟩ := Sat_bind h
  have hN := nz_A (by decide) e12 hN
  have hC := bud_of hN (by
    obtain ⟨x, h, hx⟩ := id h
    have hk : Gr (n12.2) (n12.2) := Gr.rfl
    refine bud_le (?_ : Gr _ ((fun (q : Mm) => q) x)) (hB x hx)
    obtain ⟨μ14, e14, h⟩ := bd h
    have hk := Gr.after (Gr.of (kq_pfP e14)) hk
    have h := Option.some.inj h
    subst h
    exact hk)
  refine r_newarray (t := 20) (by decide) rfl e12 ka_20 hC dX2_init_12 ?_
  obtain ⟨μ14, e14, h⟩ := Sat_bind h
  refine r_putP fk_X2_17 (Or.inr ⟨rfl, rfl, rfl, fl_X2_17⟩) rfl e14 dX2_init_14 ?_
  have hN := nz_tl (kq_pfP e14) hN
  refine r_widen hC.1 hC.2 ?_
  exact r_vreturn rfl (by rw [← Sat_eq h]; exact ⟨rfl, rfl⟩) dX2_init_17
theorem dX9_init_0 : decode cX9_init 0 = .ok (.aload_n 0, 1) := by decide +kernel
theorem dX9_init_1 : decode cX9_init 1 = .ok (.invokespecial 3, 3) := by decide +kernel
theorem dX9_init_4 : decode cX9_init 4 = .ok (.aload_n 0, 1) := by decide +kernel
theorem dX9_init_5 : decode cX9_init 5 = .ok (.bipush 8, 2) := by decide +kernel
theorem dX9_init_7 : decode cX9_init 7 = .ok (.newarray .int, 2) := by decide +kernel
theorem dX9_init_9 : decode cX9_init 9 = .ok (.putfield 9, 3) := by decide +kernel
theorem dX9_init_12 : decode cX9_init 12 = .ok (.aload_n 0, 1) := by decide +kernel
theorem dX9_init_13 : decode cX9_init 13 = .ok (.bipush 8, 2) := by decide +kernel
theorem dX9_init_15 : decode cX9_init 15 = .ok (.newarray .int, 2) := by decide +kernel
theorem dX9_init_17 : decode cX9_init 17 = .ok (.putfield 15, 3) := by decide +kernel
theorem dX9_init_20 : decode cX9_init 20 = .ok (.aload_n 0, 1) := by decide +kernel
theorem dX9_init_21 : decode cX9_init 21 = .ok (.sipush 256, 3) := by decide +kernel
theorem dX9_init_24 : decode cX9_init 24 = .ok (.newarray .int, 2) := by decide +kernel
theorem dX9_init_26 : decode cX9_init 26 = .ok (.putfield 18, 3) := by decide +kernel
theorem dX9_init_29 : decode cX9_init 29 = .ok (.return_, 1) := by decide +kernel
noncomputable def f_X9_init (a0 : Nat) (μ : Mm) : Option Mm :=
  if (mm_K μ a0).1 = 10 then (nw_A 20 (8 : Int32) μ).bind fun n7 => (pf_P 10 0 a0 n7.1 n7.2).bind fun μ9 => (nw_A 20 (8 : Int32) μ9).bind fun n15 => (pf_P 10 1 a0 n15.1 n15.2).bind fun μ17 => (nw_A 20 (256 : Int32) μ17).bind fun n24 => (pf_P 10 2 a0 n24.1 n24.2).bind fun μ26 => some μ26 else none
abbrev Rn_X9_init (G : Gv) (Q : Option Value → Mm → Prop) (mc ms c s : Nat) (pc : Nat) (lv : List (Nat × Value)) (st : List Value) (μ : Mm) : Prop := Rn G RX9 cX9_init 1 none "<init>" (rmd 1 mc ms) (Zm G mc ms Q) c s pc lv st μ
theorem t_X9_init {a0 : Nat} {μ : Mm} {x : Mm} (h : f_X9_init a0 μ = some x) : Gr μ ((fun (q : Mm) => q) x) := by
  have hk : Gr μ μ := Gr.rfl
  obtain ⟨_, h⟩ := ite_p h
  obtain ⟨n7, e7, h⟩ := bd h
  have hk := Gr.trans hk (gr_A (by decide) e7)
  obtain ⟨μ9, e9, h⟩ := bd h
  have hk := Gr.after (Gr.of (kq_pfP e9)) hk
  obtain ⟨n15, e15, h⟩ := bd h
  have hk := Gr.trans hk (gr_A (by decide) e15)
  obtain ⟨μ17, e17, h⟩ := bd h
  have hk := Gr.after (Gr.of (kq_pfP e17)) hk
  obtain ⟨n24, e24, h⟩ := bd h
  have hk := Gr.trans hk (gr_A (by decide) e24)
  obtain ⟨μ26, e26, h⟩ := bd h
  have hk := Gr.after (Gr.of (kq_pfP e26)) hk
  have h := Option.some.inj h
  subst h
  exact hk
set_option maxRecDepth 100000 in
set_option maxHeartbeats 4000000 in
theorem m_X9_init {G : Gv} (a0 : Nat) (μ : Mm) {r : Mm} (hx : f_X9_init a0 μ = some r) (mc ms : Nat) (hn : mm_N r ≤ mm_N μ + mc) (hz : mm_Z r ≤ mm_Z μ + ms) : Mt G yX9_init cX9_init 1 none 1 mc ms [.ref a0] μ (fun v μ' => v = none ∧ μ' = r) := by
  have hN : Nz μ μ 0 0 := ⟨rfl, rfl⟩
  have hC : 0 ≤ mc ∧ 0 ≤ ms := ⟨Nat.zero_le _, Nat.zero_le _⟩
  have hB : ∀ x : Mm, x = r → mm_N ((fun (q : Mm) => q) x) ≤ mm_N μ + mc ∧ mm_Z ((fun (q : Mm) => q) x) ≤ mm_Z μ + ms := fun x e => by subst e; exact ⟨hn, hz⟩
  refine Mt.of (by decide) (Nat.le_of_ble_eq_true rfl) ?_
  show Rn_X9_init G (fun v μ' => v = none ∧ μ' = r) mc ms 0 0 0 [(0, .ref a0)] [] μ
  obtain ⟨_, h⟩ := Sat_ifp (show Sat (f_X9_init a0 μ) (fun x => x = r) from ⟨_, hx, rfl⟩)
  refine r_aload_n dX9_init_0 0 rfl ?_
  refine r_objInit lo_X9_3 lo_in lo_co (Nat.le_of_ble_eq_true rfl) ⟨Nat.le_of_ble_eq_true rfl, Nat.le_of_ble_eq_true rfl⟩ dX9_init_1 ?_
  refine r_aload_n dX9_init_4 0 rfl ?_
  refine r_bipush (v := 8) dX9_init_5 (by decide) ?_
  obtain ⟨n7, e7, h⟩ := Sat_bind h
  have hN := nz_A (by decide) e7 hN
  have hC := bud_of hN (by
    obtain ⟨x, h, hx⟩ := id h
    have hk : Gr (n7.2) (n7.2) := Gr.rfl
    refine bud_le (?_ : Gr _ ((fun (q : Mm) => q) x)) (hB x hx)
    obtain ⟨μ9, e9, h⟩ := bd h
    have hk := Gr.after (Gr.of (kq_pfP e9)) hk
    obtain ⟨n15, e15, h⟩ := bd h
    have hk := Gr.trans hk (gr_A (by decide) e15)
    obtain ⟨μ17, e17, h⟩ := bd h
    have hk := Gr.after (Gr.of (kq_pfP e17)) hk
    obtain ⟨n24, e24, h⟩ := bd h
    have hk := Gr.trans hk (gr_A (by decide) e24)
    obtain ⟨μ26, e26, h⟩ := bd h
    have hk := Gr.after (Gr.of (kq_pfP e26)) hk
    have h := Option.some.inj h
    subst h
    exact hk)
  refine r_newarray (t := 20) (by decide) rfl e7 ka_20 hC dX9_init_7 ?_
  obtain ⟨μ9, e9, h⟩ := Sat_bind h
  refine r_putP fk_X9_9 (Or.inr ⟨rfl, rfl, rfl, fl_X9_9⟩) rfl e9 dX9_init_9 ?_
  have hN := nz_tl (kq_pfP e9) hN
  refine r_aload_n dX9_init_12 0 rfl ?_
  refine r_bipush (v := 8) dX9_init_13 (by decide) ?_
  obtain ⟨n15, e15, h⟩ := Sat_bind h
  have hN := nz_A (by decide) e15 hN
  have hC := bud_of hN (by
    obtain ⟨x, h, hx⟩ := id h
    have hk : Gr (n15.2) (n15.2) := Gr.rfl
    refine bud_le (?_ : Gr _ ((fun (q : Mm) => q) x)) (hB x hx)
    obtain ⟨μ17, e17, h⟩ := bd h
    have hk := Gr.after (Gr.of (kq_pfP e17)) hk
    obtain ⟨n24, e24, h⟩ := bd h
    have hk := Gr.trans hk (gr_A (by decide) e24)
    obtain ⟨μ26, e26, h⟩ := bd h
    have hk := Gr.after (Gr.of (kq_pfP e26)) hk
    have h := Option.some.inj h
    subst h
    exact hk)
  refine r_newarray (t := 20) (by decide) rfl e15 ka_20 hC dX9_init_15 ?_
  obtain ⟨μ17, e17, h⟩ := Sat_bind h
  refine r_putP fk_X9_15 (Or.inr ⟨rfl, rfl, rfl, fl_X9_15⟩) rfl e17 dX9_init_17 ?_
  have hN := nz_tl (kq_pfP e17) hN
  refine r_aload_n dX9_init_20 0 rfl ?_
  refine r_sipush (v := 256) dX9_init_21 (by decide) ?_
  obtain ⟨n24, e24, h⟩ := Sat_bind h
  have hN := nz_A (by decide) e24 hN
  have hC := bud_of hN (by
    obtain ⟨x, h, hx⟩ := id h
    have hk : Gr (n24.2) (n24.2) := Gr.rfl
    refine bud_le (?_ : Gr _ ((fun (q : Mm) => q) x)) (hB x hx)
    obtain ⟨μ26, e26, h⟩ := bd h
    have hk := Gr.after (Gr.of (kq_pfP e26)) hk
    have h := Option.some.inj h
    subst h
    exact hk)
  refine r_newarray (t := 20) (by decide) rfl e24 ka_20 hC dX9_init_24 ?_
  obtain ⟨μ26, e26, h⟩ := Sat_bind h
  refine r_putP fk_X9_18 (Or.inr ⟨rfl, rfl, rfl, fl_X9_18⟩) rfl e26 dX9_init_26 ?_
  have hN := nz_tl (kq_pfP e26) hN
  refine r_widen hC.1 hC.2 ?_
  exact r_vreturn rfl (by rw [← Sat_eq h]; exact ⟨rfl, rfl⟩) dX9_init_29
theorem dX7_init_0 : decode cX7_init 0 = .ok (.aload_n 0, 1) := by decide +kernel
theorem dX7_init_1 : decode cX7_init 1 = .ok (.invokespecial 3, 3) := by decide +kernel
theorem dX7_init_4 : decode cX7_init 4 = .ok (.aload_n 0, 1) := by decide +kernel
theorem dX7_init_5 : decode cX7_init 5 = .ok (.bipush 8, 2) := by decide +kernel
theorem dX7_init_7 : decode cX7_init 7 = .ok (.newarray .long, 2) := by decide +kernel
theorem dX7_init_9 : decode cX7_init 9 = .ok (.putfield 9, 3) := by decide +kernel
theorem dX7_init_12 : decode cX7_init 12 = .ok (.aload_n 0, 1) := by decide +kernel
theorem dX7_init_13 : decode cX7_init 13 = .ok (.bipush 8, 2) := by decide +kernel
theorem dX7_init_15 : decode cX7_init 15 = .ok (.newarray .int, 2) := by decide +kernel
theorem dX7_init_17 : decode cX7_init 17 = .ok (.putfield 15, 3) := by decide +kernel
theorem dX7_init_20 : decode cX7_init 20 = .ok (.aload_n 0, 1) := by decide +kernel
theorem dX7_init_21 : decode cX7_init 21 = .ok (.bipush 8, 2) := by decide +kernel
theorem dX7_init_23 : decode cX7_init 23 = .ok (.newarray .int, 2) := by decide +kernel
theorem dX7_init_25 : decode cX7_init 25 = .ok (.putfield 19, 3) := by decide +kernel
theorem dX7_init_28 : decode cX7_init 28 = .ok (.aload_n 0, 1) := by decide +kernel
theorem dX7_init_29 : decode cX7_init 29 = .ok (.new 22, 3) := by decide +kernel
theorem dX7_init_32 : decode cX7_init 32 = .ok (.dup, 1) := by decide +kernel
theorem dX7_init_33 : decode cX7_init 33 = .ok (.bipush 12, 2) := by decide +kernel
theorem dX7_init_35 : decode cX7_init 35 = .ok (.invokespecial 24, 3) := by decide +kernel
theorem dX7_init_38 : decode cX7_init 38 = .ok (.putfield 27, 3) := by decide +kernel
theorem dX7_init_41 : decode cX7_init 41 = .ok (.aload_n 0, 1) := by decide +kernel
theorem dX7_init_42 : decode cX7_init 42 = .ok (.new 22, 3) := by decide +kernel
theorem dX7_init_45 : decode cX7_init 45 = .ok (.dup, 1) := by decide +kernel
theorem dX7_init_46 : decode cX7_init 46 = .ok (.bipush 8, 2) := by decide +kernel
theorem dX7_init_48 : decode cX7_init 48 = .ok (.invokespecial 24, 3) := by decide +kernel
theorem dX7_init_51 : decode cX7_init 51 = .ok (.putfield 31, 3) := by decide +kernel
theorem dX7_init_54 : decode cX7_init 54 = .ok (.aload_n 0, 1) := by decide +kernel
theorem dX7_init_55 : decode cX7_init 55 = .ok (.new 22, 3) := by decide +kernel
theorem dX7_init_58 : decode cX7_init 58 = .ok (.dup, 1) := by decide +kernel
theorem dX7_init_59 : decode cX7_init 59 = .ok (.bipush 8, 2) := by decide +kernel
theorem dX7_init_61 : decode cX7_init 61 = .ok (.invokespecial 24, 3) := by decide +kernel
theorem dX7_init_64 : decode cX7_init 64 = .ok (.putfield 34, 3) := by decide +kernel
theorem dX7_init_67 : decode cX7_init 67 = .ok (.aload_n 0, 1) := by decide +kernel
theorem dX7_init_68 : decode cX7_init 68 = .ok (.new 22, 3) := by decide +kernel
theorem dX7_init_71 : decode cX7_init 71 = .ok (.dup, 1) := by decide +kernel
theorem dX7_init_72 : decode cX7_init 72 = .ok (.bipush 8, 2) := by decide +kernel
theorem dX7_init_74 : decode cX7_init 74 = .ok (.invokespecial 24, 3) := by decide +kernel
theorem dX7_init_77 : decode cX7_init 77 = .ok (.putfield 37, 3) := by decide +kernel
theorem dX7_init_80 : decode cX7_init 80 = .ok (.aload_n 0, 1) := by decide +kernel
theorem dX7_init_81 : decode cX7_init 81 = .ok (.new 22, 3) := by decide +kernel
theorem dX7_init_84 : decode cX7_init 84 = .ok (.dup, 1) := by decide +kernel
theorem dX7_init_85 : decode cX7_init 85 = .ok (.bipush 8, 2) := by decide +kernel
theorem dX7_init_87 : decode cX7_init 87 = .ok (.invokespecial 24, 3) := by decide +kernel
theorem dX7_init_90 : decode cX7_init 90 = .ok (.putfield 40, 3) := by decide +kernel
theorem dX7_init_93 : decode cX7_init 93 = .ok (.aload_n 0, 1) := by decide +kernel
theorem dX7_init_94 : decode cX7_init 94 = .ok (.new 43, 3) := by decide +kernel
theorem dX7_init_97 : decode cX7_init 97 = .ok (.dup, 1) := by decide +kernel
theorem dX7_init_98 : decode cX7_init 98 = .ok (.invokespecial 45, 3) := by decide +kernel
theorem dX7_init_101 : decode cX7_init 101 = .ok (.putfield 46, 3) := by decide +kernel
theorem dX7_init_104 : decode cX7_init 104 = .ok (.return_, 1) := by decide +kernel
noncomputable def f_X7_init (a0 : Nat) (μ : Mm) : Option Mm :=
  if (mm_K μ a0).1 = 8 then (nw_A 21 (8 : Int32) μ).bind fun n7 => (pf_P 8 0 a0 n7.1 n7.2).bind fun μ9 => (nw_A 20 (8 : Int32) μ9).bind fun n15 => (pf_P 8 1 a0 n15.1 n15.2).bind fun μ17 => (nw_A 20 (8 : Int32) μ17).bind fun n23 => (pf_P 8 2 a0 n23.1 n23.2).bind fun μ25 => (nw_O 3 μ25).bind fun n29 => (f_X2_init n29.1 (12 : Int32) n29.2).bind fun x35 => (pf_P 8 3 a0 n29.1 x35).bind fun μ38 => (nw_O 3 μ38).bind fun n42 => (f_X2_init n42.1 (8 : Int32) n42.2).bind fun x48 => (pf_P 8 4 a0 n42.1 x48).bind fun μ51 => (nw_O 3 μ51).bind fun n55 => (f_X2_init n55.1 (8 : Int32) n55.2).bind fun x61 => (pf_P 8 5 a0 n55.1 x61).bind fun μ64 => (nw_O 3 μ64).bind fun n68 => (f_X2_init n68.1 (8 : Int32) n68.2).bind fun x74 => (pf_P 8 6 a0 n68.1 x74).bind fun μ77 => (nw_O 3 μ77).bind fun n81 => (f_X2_init n81.1 (8 : Int32) n81.2).bind fun x87 => (pf_P 8 7 a0 n81.1 x87).bind fun μ90 => (nw_O 10 μ90).bind fun n94 => (f_X9_init n94.1 n94.2).bind fun x98 => (pf_P 8 8 a0 n94.1 x98).bind fun μ101 => some μ101 else none
abbrev Rn_X7_init (G : Gv) (Q : Option Value → Mm → Prop) (mc ms c s : Nat) (pc : Nat) (lv : List (Nat × Value)) (st : List Value) (μ : Mm) : Prop := Rn G RX7 cX7_init 1 none "<init>" (rmd 2 mc ms) (Zm G mc ms Q) c s pc lv st μ
theorem t_X7_init {a0 : Nat} {μ : Mm} {x : Mm} (h : f_X7_init a0 μ = some x) : Gr μ ((fun (q : Mm) => q) x) := by
  have hk : Gr μ μ := Gr.rfl
  obtain ⟨_, h⟩ := ite_p h
  obtain ⟨n7, e7, h⟩ := bd h
  have hk := Gr.trans hk (gr_A (by decide) e7)
  obtain ⟨μ9, e9, h⟩ := bd h
  have hk := Gr.after (Gr.of (kq_pfP e9)) hk
  obtain ⟨n15, e15, h⟩ := bd h
  have hk := Gr.trans hk (gr_A (by decide) e15)
  obtain ⟨μ17, e17, h⟩ := bd h
  have hk := Gr.after (Gr.of (kq_pfP e17)) hk
  obtain ⟨n23, e23, h⟩ := bd h
  have hk := Gr.trans hk (gr_A (by decide) e23)
  obtain ⟨μ25, e25, h⟩ := bd h
  have hk := Gr.after (Gr.of (kq_pfP e25)) hk
  obtain ⟨n29, e29, h⟩ := bd h
  have hk := Gr.trans hk (gr_O e29)
  obtain ⟨x35, e35, h⟩ := bd h
  have hk := Gr.after (t_X2_init e35) hk
  obtain ⟨μ38, e38, h⟩ := bd h
  have hk := Gr.after (Gr.of (kq_pfP e38)) hk
  obtain ⟨n42, e42, h⟩ := bd h
  have hk := Gr.trans hk (gr_O e42)
  obtain ⟨x48, e48, h⟩ := bd h
  have hk := Gr.after (t_X2_init e48) hk
  obtain ⟨μ51, e51, h⟩ := bd h
  have hk := Gr.after (Gr.of (kq_pfP e51)) hk
  obtain ⟨n55, e55, h⟩ := bd h
  have hk := Gr.trans hk (gr_O e55)
  obtain ⟨x61, e61, h⟩ := bd h
  have hk := Gr.after (t_X2_init e61) hk
  obtain ⟨μ64, e64, h⟩ := bd h
  have hk := Gr.after (Gr.of (kq_pfP e64)) hk
  obtain ⟨n68, e68, h⟩ := bd h
  have hk := Gr.trans hk (gr_O e68)
  obtain ⟨x74, e74, h⟩ := bd h
  have hk := Gr.after (t_X2_init e74) hk
  obtain ⟨μ77, e77, h⟩ := bd h
  have hk := Gr.after (Gr.of (kq_pfP e77)) hk
  obtain ⟨n81, e81, h⟩ := bd h
  have hk := Gr.trans hk (gr_O e81)
  obtain ⟨x87, e87, h⟩ := bd h
  have hk := Gr.after (t_X2_init e87) hk
  obtain ⟨μ90, e90, h⟩ := bd h
  have hk := Gr.after (Gr.of (kq_pfP e90)) hk
  obtain ⟨n94, e94, h⟩ := bd h
  have hk := Gr.trans hk (gr_O e94)
  obtain ⟨x98, e98, h⟩ := bd h
  have hk := Gr.after (t_X9_init e98) hk
  obtain ⟨μ101, e101, h⟩ := bd h
  have hk := Gr.after (Gr.of (kq_pfP e101)) hk
  have h := Option.some.inj h
  subst h
  exact hk
set_option maxRecDepth 100000 in
set_option maxHeartbeats 4000000 in
theorem m_X7_init {G : Gv} (a0 : Nat) (μ : Mm) {r : Mm} (hx : f_X7_init a0 μ = some r) (mc ms : Nat) (hn : mm_N r ≤ mm_N μ + mc) (hz : mm_Z r ≤ mm_Z μ + ms) : Mt G yX7_init cX7_init 1 none 2 mc ms [.ref a0] μ (fun v μ' => v = none ∧ μ' = r) := by
  have hN : Nz μ μ 0 0 := ⟨rfl, rfl⟩
  have hC : 0 ≤ mc ∧ 0 ≤ ms := ⟨Nat.zero_le _, Nat.zero_le _⟩
  have hB : ∀ x : Mm, x = r → mm_N ((fun (q : Mm) => q) x) ≤ mm_N μ + mc ∧ mm_Z ((fun (q : Mm) => q) x) ≤ mm_Z μ + ms := fun x e => by subst e; exact ⟨hn, hz⟩
  refine Mt.of (by decide) (Nat.le_of_ble_eq_true rfl) ?_
  show Rn_X7_init G (fun v μ' => v = none ∧ μ' = r) mc ms 0 0 0 [(0, .ref a0)] [] μ
  obtain ⟨_, h⟩ := Sat_ifp (show Sat (f_X7_init a0 μ) (fun x => x = r) from ⟨_, hx, rfl⟩)
  refine r_aload_n dX7_init_0 0 rfl ?_
  refine r_objInit lo_X7_3 lo_in lo_co (Nat.le_of_ble_eq_true rfl) ⟨Nat.le_of_ble_eq_true rfl, Nat.le_of_ble_eq_true rfl⟩ dX7_init_1 ?_
  refine r_aload_n dX7_init_4 0 rfl ?_
  refine r_bipush (v := 8) dX7_init_5 (by decide) ?_
  obtain ⟨n7, e7, h⟩ := Sat_bind h
  have hN := nz_A (by decide) e7 hN
  have hC := bud_of hN (by
    obtain ⟨x, h, hx⟩ := id h
    have hk : Gr (n7.2) (n7.2) := Gr.rfl
    refine bud_le (?_ : Gr _ ((fun (q : Mm) => q) x)) (hB x hx)
    obtain ⟨μ9, e9, h⟩ := bd h
    have hk := Gr.after (Gr.of (kq_pfP e9)) hk
    obtain ⟨n15, e15, h⟩ := bd h
    have hk := Gr.trans hk (gr_A (by decide) e15)
    obtain ⟨μ17, e17, h⟩ := bd h
    have hk := Gr.after (Gr.of (kq_pfP e17)) hk
    obtain ⟨n23, e23, h⟩ := bd h
    have hk := Gr.trans hk (gr_A (by decide) e23)
    obtain ⟨μ25, e25, h⟩ := bd h
    have hk := Gr.after (Gr.of (kq_pfP e25)) hk
    obtain ⟨n29, e29, h⟩ := bd h
    have hk := Gr.trans hk (gr_O e29)
    obtain ⟨x35, e35, h⟩ := bd h
    have hk := Gr.after (t_X2_init e35) hk
    obtain ⟨μ38, e38, h⟩ := bd h
    have hk := Gr.after (Gr.of (kq_pfP e38)) hk
    obtain ⟨n42, e42, h⟩ := bd h
    have hk := Gr.trans hk (gr_O e42)
    obtain ⟨x48, e48, h⟩ := bd h
    have hk := Gr.after (t_X2_init e48) hk
    obtain ⟨μ51, e51, h⟩ := bd h
    have hk := Gr.after (Gr.of (kq_pfP e51)) hk
    obtain ⟨n55, e55, h⟩ := bd h
    have hk := Gr.trans hk (gr_O e55)
    obtain ⟨x61, e61, h⟩ := bd h
    have hk := Gr.after (t_X2_init e61) hk
    obtain ⟨μ64, e64, h⟩ := bd h
    have hk := Gr.after (Gr.of (kq_pfP e64)) hk
    obtain ⟨n68, e68, h⟩ := bd h
    have hk := Gr.trans hk (gr_O e68)
    obtain ⟨x74, e74, h⟩ := bd h
    have hk := Gr.after (t_X2_init e74) hk
    obtain ⟨μ77, e77, h⟩ := bd h
    have hk := Gr.after (Gr.of (kq_pfP e77)) hk
    obtain ⟨n81, e81, h⟩ := bd h
    have hk := Gr.trans hk (gr_O e81)
    obtain ⟨x87, e87, h⟩ := bd h
    have hk := Gr.after (t_X2_init e87) hk
    obtain ⟨μ90, e90, h⟩ := bd h
    have hk := Gr.after (Gr.of (kq_pfP e90)) hk
    obtain ⟨n94, e94, h⟩ := bd h
    have hk := Gr.trans hk (gr_O e94)
    obtain ⟨x98, e98, h⟩ := bd h
    have hk := Gr.after (t_X9_init e98) hk
    obtain ⟨μ101, e101, h⟩ := bd h
    have hk := Gr.after (Gr.of (kq_pfP e101)) hk
    have h := Option.some.inj h
    subst h
    exact hk)
  refine r_newarray (t := 21) (by decide) rfl e7 ka_21 hC dX7_init_7 ?_
  obtain ⟨μ9, e9, h⟩ := Sat_bind h
  refine r_putP fk_X7_9 (Or.inr ⟨rfl, rfl, rfl, fl_X7_9⟩) rfl e9 dX7_init_9 ?_
  have hN := nz_tl (kq_pfP e9) hN
  refine r_aload_n dX7_init_12 0 rfl ?_
  refine r_bipush (v := 8) dX7_init_13 (by decide) ?_
  obtain ⟨n15, e15, h⟩ := Sat_bind h
  have hN := nz_A (by decide) e15 hN
  have hC := bud_of hN (by
    obtain ⟨x, h, hx⟩ := id h
    have hk : Gr (n15.2) (n15.2) := Gr.rfl
    refine bud_le (?_ : Gr _ ((fun (q : Mm) => q) x)) (hB x hx)
    obtain ⟨μ17, e17, h⟩ := bd h
    have hk := Gr.after (Gr.of (kq_pfP e17)) hk
    obtain ⟨n23, e23, h⟩ := bd h
    have hk := Gr.trans hk (gr_A (by decide) e23)
    obtain ⟨μ25, e25, h⟩ := bd h
    have hk := Gr.after (Gr.of (kq_pfP e25)) hk
    obtain ⟨n29, e29, h⟩ := bd h
    have hk := Gr.trans hk (gr_O e29)
    obtain ⟨x35, e35, h⟩ := bd h
    have hk := Gr.after (t_X2_init e35) hk
    obtain ⟨μ38, e38, h⟩ := bd h
    have hk := Gr.after (Gr.of (kq_pfP e38)) hk
    obtain ⟨n42, e42, h⟩ := bd h
    have hk := Gr.trans hk (gr_O e42)
    obtain ⟨x48, e48, h⟩ := bd h
    have hk := Gr.after (t_X2_init e48) hk
    obtain ⟨μ51, e51, h⟩ := bd h
    have hk := Gr.after (Gr.of (kq_pfP e51)) hk
    obtain ⟨n55, e55, h⟩ := bd h
    have hk := Gr.trans hk (gr_O e55)
    obtain ⟨x61, e61, h⟩ := bd h
    have hk := Gr.after (t_X2_init e61) hk
    obtain ⟨μ64, e64, h⟩ := bd h
    have hk := Gr.after (Gr.of (kq_pfP e64)) hk
    obtain ⟨n68, e68, h⟩ := bd h
    have hk := Gr.trans hk (gr_O e68)
    obtain ⟨x74, e74, h⟩ := bd h
    have hk := Gr.after (t_X2_init e74) hk
    obtain ⟨μ77, e77, h⟩ := bd h
    have hk := Gr.after (Gr.of (kq_pfP e77)) hk
    obtain ⟨n81, e81, h⟩ := bd h
    have hk := Gr.trans hk (gr_O e81)
    obtain ⟨x87, e87, h⟩ := bd h
    have hk := Gr.after (t_X2_init e87) hk
    obtain ⟨μ90, e90, h⟩ := bd h
    have hk := Gr.after (Gr.of (kq_pfP e90)) hk
    obtain ⟨n94, e94, h⟩ := bd h
    have hk := Gr.trans hk (gr_O e94)
    obtain ⟨x98, e98, h⟩ := bd h
    have hk := Gr.after (t_X9_init e98) hk
    obtain ⟨μ101, e101, h⟩ := bd h
    have hk := Gr.after (Gr.of (kq_pfP e101)) hk
    have h := Option.some.inj h
    subst h
    exact hk)
  refine r_newarray (t := 20) (by decide) rfl e15 ka_20 hC dX7_init_15 ?_
  obtain ⟨μ17, e17, h⟩ := Sat_bind h
  refine r_putP fk_X7_15 (Or.inr ⟨rfl, rfl, rfl, fl_X7_15⟩) rfl e17 dX7_init_17 ?_
  have hN := nz_tl (kq_pfP e17) hN
  refine r_aload_n dX7_init_20 0 rfl ?_
  refine r_bipush (v := 8) dX7_init_21 (by decide) ?_
  obtain ⟨n23, e23, h⟩ := Sat_bind h
  have hN := nz_A (by decide) e23 hN
  have hC := bud_of hN (by
    obtain ⟨x, h, hx⟩ := id h
    have hk : Gr (n23.2) (n23.2) := Gr.rfl
    refine bud_le (?_ : Gr _ ((fun (q : Mm) => q) x)) (hB x hx)
    obtain ⟨μ25, e25, h⟩ := bd h
    have hk := Gr.after (Gr.of (kq_pfP e25)) hk
    obtain ⟨n29, e29, h⟩ := bd h
    have hk := Gr.trans hk (gr_O e29)
    obtain ⟨x35, e35, h⟩ := bd h
    have hk := Gr.after (t_X2_init e35) hk
    obtain ⟨μ38, e38, h⟩ := bd h
    have hk := Gr.after (Gr.of (kq_pfP e38)) hk
    obtain ⟨n42, e42, h⟩ := bd h
    have hk := Gr.trans hk (gr_O e42)
    obtain ⟨x48, e48, h⟩ := bd h
    have hk := Gr.after (t_X2_init e48) hk
    obtain ⟨μ51, e51, h⟩ := bd h
    have hk := Gr.after (Gr.of (kq_pfP e51)) hk
    obtain ⟨n55, e55, h⟩ := bd h
    have hk := Gr.trans hk (gr_O e55)
    obtain ⟨x61, e61, h⟩ := bd h
    have hk := Gr.after (t_X2_init e61) hk
    obtain ⟨μ64, e64, h⟩ := bd h
    have hk := Gr.after (Gr.of (kq_pfP e64)) hk
    obtain ⟨n68, e68, h⟩ := bd h
    have hk := Gr.trans hk (gr_O e68)
    obtain ⟨x74, e74, h⟩ := bd h
    have hk := Gr.after (t_X2_init e74) hk
    obtain ⟨μ77, e77, h⟩ := bd h
    have hk := Gr.after (Gr.of (kq_pfP e77)) hk
    obtain ⟨n81, e81, h⟩ := bd h
    have hk := Gr.trans hk (gr_O e81)
    obtain ⟨x87, e87, h⟩ := bd h
    have hk := Gr.after (t_X2_init e87) hk
    obtain ⟨μ90, e90, h⟩ := bd h
    have hk := Gr.after (Gr.of (kq_pfP e90)) hk
    obtain ⟨n94, e94, h⟩ := bd h
    have hk := Gr.trans hk (gr_O e94)
    obtain ⟨x98, e98, h⟩ := bd h
    have hk := Gr.after (t_X9_init e98) hk
    obtain ⟨μ101, e101, h⟩ := bd h
    have hk := Gr.after (Gr.of (kq_pfP e101)) hk
    have h := Option.some.inj h
    subst h
    exact hk)
  refine r_newarray (t := 20) (by decide) rfl e23 ka_20 hC dX7_init_23 ?_
  obtain ⟨μ25, e25, h⟩ := Sat_bind h
  refine r_putP fk_X7_19 (Or.inr ⟨rfl, rfl, rfl, fl_X7_19⟩) rfl e25 dX7_init_25 ?_
  have hN := nz_tl (kq_pfP e25) hN
  refine r_aload_n dX7_init_28 0 rfl ?_
  obtain ⟨n29, e29, h⟩ := Sat_bind h
  have hN := nz_O e29 hN (by decide)
  have hC := bud_of hN (by
    obtain ⟨x, h, hx⟩ := id h
    have hk : Gr (n29.2) (n29.2) := Gr.rfl
    refine bud_le (?_ : Gr _ ((fun (q : Mm) => q) x)) (hB x hx)
    obtain ⟨x35, e35, h⟩ := bd h
    have hk := Gr.after (t_X2_init e35) hk
    obtain ⟨μ38, e38, h⟩ := bd h
    have hk := Gr.after (Gr.of (kq_pfP e38)) hk
    obtain ⟨n42, e42, h⟩ := bd h
    have hk := Gr.trans hk (gr_O e42)
    obtain ⟨x48, e48, h⟩ := bd h
    have hk := Gr.after (t_X2_init e48) hk
    obtain ⟨μ51, e51, h⟩ := bd h
    have hk := Gr.after (Gr.of (kq_pfP e51)) hk
    obtain ⟨n55, e55, h⟩ := bd h
    have hk := Gr.trans hk (gr_O e55)
    obtain ⟨x61, e61, h⟩ := bd h
    have hk := Gr.after (t_X2_init e61) hk
    obtain ⟨μ64, e64, h⟩ := bd h
    have hk := Gr.after (Gr.of (kq_pfP e64)) hk
    obtain ⟨n68, e68, h⟩ := bd h
    have hk := Gr.trans hk (gr_O e68)
    obtain ⟨x74, e74, h⟩ := bd h
    have hk := Gr.after (t_X2_init e74) hk
    obtain ⟨μ77, e77, h⟩ := bd h
    have hk := Gr.after (Gr.of (kq_pfP e77)) hk
    obtain ⟨n81, e81, h⟩ := bd h
    have hk := Gr.trans hk (gr_O e81)
    obtain ⟨x87, e87, h⟩ := bd h
    have hk := Gr.after (t_X2_init e87) hk
    obtain ⟨μ90, e90, h⟩ := bd h
    have hk := Gr.after (Gr.of (kq_pfP e90)) hk
    obtain ⟨n94, e94, h⟩ := bd h
    have hk := Gr.trans hk (gr_O e94)
    obtain ⟨x98, e98, h⟩ := bd h
    have hk := Gr.after (t_X9_init e98) hk
    obtain ⟨μ101, e101, h⟩ := bd h
    have hk := Gr.after (Gr.of (kq_pfP e101)) hk
    have h := Option.some.inj h
    subst h
    exact hk)
  refine r_newO e29 ⟨by decide, by decide⟩ kl_X7_22 (by decide) hC dX7_init_29 ?_
  refine r_dup dX7_init_32 rfl ?_
  refine r_bipush (v := 12) dX7_init_33 (by decide) ?_
  obtain ⟨x35, e35, h⟩ := Sat_bind h
  have hN := nz_call (t_X2_init e35) hN
  have hC := bud_of hN (by
    obtain ⟨x, h, hx⟩ := id h
    have hk : Gr (x35) (x35) := Gr.rfl
    refine bud_le (?_ : Gr _ ((fun (q : Mm) => q) x)) (hB x hx)
    obtain ⟨μ38, e38, h⟩ := bd h
    have hk := Gr.after (Gr.of (kq_pfP e38)) hk
    obtain ⟨n42, e42, h⟩ := bd h
    have hk := Gr.trans hk (gr_O e42)
    obtain ⟨x48, e48, h⟩ := bd h
    have hk := Gr.after (t_X2_init e48) hk
    obtain ⟨μ51, e51, h⟩ := bd h
    have hk := Gr.after (Gr.of (kq_pfP e51)) hk
    obtain ⟨n55, e55, h⟩ := bd h
    have hk := Gr.trans hk (gr_O e55)
    obtain ⟨x61, e61, h⟩ := bd h
    have hk := Gr.after (t_X2_init e61) hk
    obtain ⟨μ64, e64, h⟩ := bd h
    have hk := Gr.after (Gr.of (kq_pfP e64)) hk
    obtain ⟨n68, e68, h⟩ := bd h
    have hk := Gr.trans hk (gr_O e68)
    obtain ⟨x74, e74, h⟩ := bd h
    have hk := Gr.after (t_X2_init e74) hk
    obtain ⟨μ77, e77, h⟩ := bd h
    have hk := Gr.after (Gr.of (kq_pfP e77)) hk
    obtain ⟨n81, e81, h⟩ := bd h
    have hk := Gr.trans hk (gr_O e81)
    obtain ⟨x87, e87, h⟩ := bd h
    have hk := Gr.after (t_X2_init e87) hk
    obtain ⟨μ90, e90, h⟩ := bd h
    have hk := Gr.after (Gr.of (kq_pfP e90)) hk
    obtain ⟨n94, e94, h⟩ := bd h
    have hk := Gr.trans hk (gr_O e94)
    obtain ⟨x98, e98, h⟩ := bd h
    have hk := Gr.after (t_X9_init e98) hk
    obtain ⟨μ101, e101, h⟩ := bd h
    have hk := Gr.after (Gr.of (kq_pfP e101)) hk
    have h := Option.some.inj h
    subst h
    exact hk)
  refine r_bI [.int (12 : Int32)] [.ref n29.1, .ref a0] (m_X2_init n29.1 (12 : Int32) n29.2 e35 (mm_N x35 - mm_N n29.2) (mm_Z x35 - mm_Z n29.2) gr_N gr_Z) ck_X2_init lk_X7_24 in_X2_init rfl rfl rfl (Nat.le_of_ble_eq_true rfl) ⟨Nat.le_of_ble_eq_true rfl, Nat.le_of_ble_eq_true rfl⟩ hC dX7_init_35 ?_
  obtain ⟨μ38, e38, h⟩ := Sat_bind h
  refine r_putP fk_X7_27 (Or.inr ⟨rfl, rfl, rfl, fl_X7_27⟩) rfl e38 dX7_init_38 ?_
  have hN := nz_tl (kq_pfP e38) hN
  refine r_aload_n dX7_init_41 0 rfl ?_
  obtain ⟨n42, e42, h⟩ := Sat_bind h
  have hN := nz_O e42 hN (by decide)
  have hC := bud_of hN (by
    obtain ⟨x, h, hx⟩ := id h
    have hk : Gr (n42.2) (n42.2) := Gr.rfl
    refine bud_le (?_ : Gr _ ((fun (q : Mm) => q) x)) (hB x hx)
    obtain ⟨x48, e48, h⟩ := bd h
    have hk := Gr.after (t_X2_init e48) hk
    obtain ⟨μ51, e51, h⟩ := bd h
    have hk := Gr.after (Gr.of (kq_pfP e51)) hk
    obtain ⟨n55, e55, h⟩ := bd h
    have hk := Gr.trans hk (gr_O e55)
    obtain ⟨x61, e61, h⟩ := bd h
    have hk := Gr.after (t_X2_init e61) hk
    obtain ⟨μ64, e64, h⟩ := bd h
    have hk := Gr.after (Gr.of (kq_pfP e64)) hk
    obtain ⟨n68, e68, h⟩ := bd h
    have hk := Gr.trans hk (gr_O e68)
    obtain ⟨x74, e74, h⟩ := bd h
    have hk := Gr.after (t_X2_init e74) hk
    obtain ⟨μ77, e77, h⟩ := bd h
    have hk := Gr.after (Gr.of (kq_pfP e77)) hk
    obtain ⟨n81, e81, h⟩ := bd h
    have hk := Gr.trans hk (gr_O e81)
    obtain ⟨x87, e87, h⟩ := bd h
    have hk := Gr.after (t_X2_init e87) hk
    obtain ⟨μ90, e90, h⟩ := bd h
    have hk := Gr.after (Gr.of (kq_pfP e90)) hk
    obtain ⟨n94, e94, h⟩ := bd h
    have hk := Gr.trans hk (gr_O e94)
    obtain ⟨x98, e98, h⟩ := bd h
    have hk := Gr.after (t_X9_init e98) hk
    obtain ⟨μ101, e101, h⟩ := bd h
    have hk := Gr.after (Gr.of (kq_pfP e101)) hk
    have h := Option.some.inj h
    subst h
    exact hk)
  refine r_newO e42 ⟨by decide, by decide⟩ kl_X7_22 (by decide) hC dX7_init_42 ?_
  refine r_dup dX7_init_45 rfl ?_
  refine r_bipush (v := 8) dX7_init_46 (by decide) ?_
  obtain ⟨x48, e48, h⟩ := Sat_bind h
  have hN := nz_call (t_X2_init e48) hN
  have hC := bud_of hN (by
    obtain ⟨x, h, hx⟩ := id h
    have hk : Gr (x48) (x48) := Gr.rfl
    refine bud_le (?_ : Gr _ ((fun (q : Mm) => q) x)) (hB x hx)
    obtain ⟨μ51, e51, h⟩ := bd h
    have hk := Gr.after (Gr.of (kq_pfP e51)) hk
    obtain ⟨n55, e55, h⟩ := bd h
    have hk := Gr.trans hk (gr_O e55)
    obtain ⟨x61, e61, h⟩ := bd h
    have hk := Gr.after (t_X2_init e61) hk
    obtain ⟨μ64, e64, h⟩ := bd h
    have hk := Gr.after (Gr.of (kq_pfP e64)) hk
    obtain ⟨n68, e68, h⟩ := bd h
    have hk := Gr.trans hk (gr_O e68)
    obtain ⟨x74, e74, h⟩ := bd h
    have hk := Gr.after (t_X2_init e74) hk
    obtain ⟨μ77, e77, h⟩ := bd h
    have hk := Gr.after (Gr.of (kq_pfP e77)) hk
    obtain ⟨n81, e81, h⟩ := bd h
    have hk := Gr.trans hk (gr_O e81)
    obtain ⟨x87, e87, h⟩ := bd h
    have hk := Gr.after (t_X2_init e87) hk
    obtain ⟨μ90, e90, h⟩ := bd h
    have hk := Gr.after (Gr.of (kq_pfP e90)) hk
    obtain ⟨n94, e94, h⟩ := bd h
    have hk := Gr.trans hk (gr_O e94)
    obtain ⟨x98, e98, h⟩ := bd h
    have hk := Gr.after (t_X9_init e98) hk
    obtain ⟨μ101, e101, h⟩ := bd h
    have hk := Gr.after (Gr.of (kq_pfP e101)) hk
    have h := Option.some.inj h
    subst h
    exact hk)
  refine r_bI [.int (8 : Int32)] [.ref n42.1, .ref a0] (m_X2_init n42.1 (8 : Int32) n42.2 e48 (mm_N x48 - mm_N n42.2) (mm_Z x48 - mm_Z n42.2) gr_N gr_Z) ck_X2_init lk_X7_24 in_X2_init rfl rfl rfl (Nat.le_of_ble_eq_true rfl) ⟨Nat.le_of_ble_eq_true rfl, Nat.le_of_ble_eq_true rfl⟩ hC dX7_init_48 ?_
  obtain ⟨μ51, e51, h⟩ := Sat_bind h
  refine r_putP fk_X7_31 (Or.inr ⟨rfl, rfl, rfl, fl_X7_31⟩) rfl e51 dX7_init_51 ?_
  have hN := nz_tl (kq_pfP e51) hN
  refine r_aload_n dX7_init_54 0 rfl ?_
  obtain ⟨n55, e55, h⟩ := Sat_bind h
  have hN := nz_O e55 hN (by decide)
  have hC := bud_of hN (by
    obtain ⟨x, h, hx⟩ := id h
    have hk : Gr (n55.2) (n55.2) := Gr.rfl
    refine bud_le (?_ : Gr _ ((fun (q : Mm) => q) x)) (hB x hx)
    obtain ⟨x61, e61, h⟩ := bd h
    have hk := Gr.after (t_X2_init e61) hk
    obtain ⟨μ64, e64, h⟩ := bd h
    have hk := Gr.after (Gr.of (kq_pfP e64)) hk
    obtain ⟨n68, e68, h⟩ := bd h
    have hk := Gr.trans hk (gr_O e68)
    obtain ⟨x74, e74, h⟩ := bd h
    have hk := Gr.after (t_X2_init e74) hk
    obtain ⟨μ77, e77, h⟩ := bd h
    have hk := Gr.after (Gr.of (kq_pfP e77)) hk
    obtain ⟨n81, e81, h⟩ := bd h
    have hk := Gr.trans hk (gr_O e81)
    obtain ⟨x87, e87, h⟩ := bd h
    have hk := Gr.after (t_X2_init e87) hk
    obtain ⟨μ90, e90, h⟩ := bd h
    have hk := Gr.after (Gr.of (kq_pfP e90)) hk
    obtain ⟨n94, e94, h⟩ := bd h
    have hk := Gr.trans hk (gr_O e94)
    obtain ⟨x98, e98, h⟩ := bd h
    have hk := Gr.after (t_X9_init e98) hk
    obtain ⟨μ101, e101, h⟩ := bd h
    have hk := Gr.after (Gr.of (kq_pfP e101)) hk
    have h := Option.some.inj h
    subst h
    exact hk)
  refine r_newO e55 ⟨by decide, by decide⟩ kl_X7_22 (by decide) hC dX7_init_55 ?_
  refine r_dup dX7_init_58 rfl ?_
  refine r_bipush (v := 8) dX7_init_59 (by decide) ?_
  obtain ⟨x61, e61, h⟩ := Sat_bind h
  have hN := nz_call (t_X2_init e61) hN
  have hC := bud_of hN (by
    obtain ⟨x, h, hx⟩ := id h
    have hk : Gr (x61) (x61) := Gr.rfl
    refine bud_le (?_ : Gr _ ((fun (q : Mm) => q) x)) (hB x hx)
    obtain ⟨μ64, e64, h⟩ := bd h
    have hk := Gr.after (Gr.of (kq_pfP e64)) hk
    obtain ⟨n68, e68, h⟩ := bd h
    have hk := Gr.trans hk (gr_O e68)
    obtain ⟨x74, e74, h⟩ := bd h
    have hk := Gr.after (t_X2_init e74) hk
    obtain ⟨μ77, e77, h⟩ := bd h
    have hk := Gr.after (Gr.of (kq_pfP e77)) hk
    obtain ⟨n81, e81, h⟩ := bd h
    have hk := Gr.trans hk (gr_O e81)
    obtain ⟨x87, e87, h⟩ := bd h
    have hk := Gr.after (t_X2_init e87) hk
    obtain ⟨μ90, e90, h⟩ := bd h
    have hk := Gr.after (Gr.of (kq_pfP e90)) hk
    obtain ⟨n94, e94, h⟩ := bd h
    have hk := Gr.trans hk (gr_O e94)
    obtain ⟨x98, e98, h⟩ := bd h
    have hk := Gr.after (t_X9_init e98) hk
    obtain ⟨μ101, e101, h⟩ := bd h
    have hk := Gr.after (Gr.of (kq_pfP e101)) hk
    have h := Option.some.inj h
    subst h
    exact hk)
  refine r_bI [.int (8 : Int32)] [.ref n55.1, .ref a0] (m_X2_init n55.1 (8 : Int32) n55.2 e61 (mm_N x61 - mm_N n55.2) (mm_Z x61 - mm_Z n55.2) gr_N gr_Z) ck_X2_init lk_X7_24 in_X2_init rfl rfl rfl (Nat.le_of_ble_eq_true rfl) ⟨Nat.le_of_ble_eq_true rfl, Nat.le_of_ble_eq_true rfl⟩ hC dX7_init_61 ?_
  obtain ⟨μ64, e64, h⟩ := Sat_bind h
  refine r_putP fk_X7_34 (Or.inr ⟨rfl, rfl, rfl, fl_X7_34⟩) rfl e64 dX7_init_64 ?_
  have hN := nz_tl (kq_pfP e64) hN
  refine r_aload_n dX7_init_67 0 rfl ?_
  obtain ⟨n68, e68, h⟩ := Sat_bind h
  have hN := nz_O e68 hN (by decide)
  have hC := bud_of hN (by
    obtain ⟨x, h, hx⟩ := id h
    have hk : Gr (n68.2) (n68.2) := Gr.rfl
    refine bud_le (?_ : Gr _ ((fun (q : Mm) => q) x)) (hB x hx)
    obtain ⟨x74, e74, h⟩ := bd h
    have hk := Gr.after (t_X2_init e74) hk
    obtain ⟨μ77, e77, h⟩ := bd h
    have hk := Gr.after (Gr.of (kq_pfP e77)) hk
    obtain ⟨n81, e81, h⟩ := bd h
    have hk := Gr.trans hk (gr_O e81)
    obtain ⟨x87, e87, h⟩ := bd h
    have hk := Gr.after (t_X2_init e87) hk
    obtain ⟨μ90, e90, h⟩ := bd h
    have hk := Gr.after (Gr.of (kq_pfP e90)) hk
    obtain ⟨n94, e94, h⟩ := bd h
    have hk := Gr.trans hk (gr_O e94)
    obtain ⟨x98, e98, h⟩ := bd h
    have hk := Gr.after (t_X9_init e98) hk
    obtain ⟨μ101, e101, h⟩ := bd h
    have hk := Gr.after (Gr.of (kq_pfP e101)) hk
    have h := Option.some.inj h
    subst h
    exact hk)
  refine r_newO e68 ⟨by decide, by decide⟩ kl_X7_22 (by decide) hC dX7_init_68 ?_
  refine r_dup dX7_init_71 rfl ?_
  refine r_bipush (v := 8) dX7_init_72 (by decide) ?_
  obtain ⟨x74, e74, h⟩ := Sat_bind h
  have hN := nz_call (t_X2_init e74) hN
  have hC := bud_of hN (by
    obtain ⟨x, h, hx⟩ := id h
    have hk : Gr (x74) (x74) := Gr.rfl
    refine bud_le (?_ : Gr _ ((fun (q : Mm) => q) x)) (hB x hx)
    obtain ⟨μ77, e77, h⟩ := bd h
    have hk := Gr.after (Gr.of (kq_pfP e77)) hk
    obtain ⟨n81, e81, h⟩ := bd h
    have hk := Gr.trans hk (gr_O e81)
    obtain ⟨x87, e87, h⟩ := bd h
    have hk := Gr.after (t_X2_init e87) hk
    obtain ⟨μ90, e90, h⟩ := bd h
    have hk := Gr.after (Gr.of (kq_pfP e90)) hk
    obtain ⟨n94, e94, h⟩ := bd h
    have hk := Gr.trans hk (gr_O e94)
    obtain ⟨x98, e98, h⟩ := bd h
    have hk := Gr.after (t_X9_init e98) hk
    obtain ⟨μ101, e101, h⟩ := bd h
    have hk := Gr.after (Gr.of (kq_pfP e101)) hk
    have h := Option.some.inj h
    subst h
    exact hk)
  refine r_bI [.int (8 : Int32)] [.ref n68.1, .ref a0] (m_X2_init n68.1 (8 : Int32) n68.2 e74 (mm_N x74 - mm_N n68.2) (mm_Z x74 - mm_Z n68.2) gr_N gr_Z) ck_X2_init lk_X7_24 in_X2_init rfl rfl rfl (Nat.le_of_ble_eq_true rfl) ⟨Nat.le_of_ble_eq_true rfl, Nat.le_of_ble_eq_true rfl⟩ hC dX7_init_74 ?_
  obtain ⟨μ77, e77, h⟩ := Sat_bind h
  refine r_putP fk_X7_37 (Or.inr ⟨rfl, rfl, rfl, fl_X7_37⟩) rfl e77 dX7_init_77 ?_
  have hN := nz_tl (kq_pfP e77) hN
  refine r_aload_n dX7_init_80 0 rfl ?_
  obtain ⟨n81, e81, h⟩ := Sat_bind h
  have hN := nz_O e81 hN (by decide)
  have hC := bud_of hN (by
    obtain ⟨x, h, hx⟩ := id h
    have hk : Gr (n81.2) (n81.2) := Gr.rfl
    refine bud_le (?_ : Gr _ ((fun (q : Mm) => q) x)) (hB x hx)
    obtain ⟨x87, e87, h⟩ := bd h
    have hk := Gr.after (t_X2_init e87) hk
    obtain ⟨μ90, e90, h⟩ := bd h
    have hk := Gr.after (Gr.of (kq_pfP e90)) hk
    obtain ⟨n94, e94, h⟩ := bd h
    have hk := Gr.trans hk (gr_O e94)
    obtain ⟨x98, e98, h⟩ := bd h
    have hk := Gr.after (t_X9_init e98) hk
    obtain ⟨μ101, e101, h⟩ := bd h
    have hk := Gr.after (Gr.of (kq_pfP e101)) hk
    have h := Option.some.inj h
    subst h
    exact hk)
  refine r_newO e81 ⟨by decide, by decide⟩ kl_X7_22 (by decide) hC dX7_init_81 ?_
  refine r_dup dX7_init_84 rfl ?_
  refine r_bipush (v := 8) dX7_init_85 (by decide) ?_
  obtain ⟨x87, e87, h⟩ := Sat_bind h
  have hN := nz_call (t_X2_init e87) hN
  have hC := bud_of hN (by
    obtain ⟨x, h, hx⟩ := id h
    have hk : Gr (x87) (x87) := Gr.rfl
    refine bud_le (?_ : Gr _ ((fun (q : Mm) => q) x)) (hB x hx)
    obtain ⟨μ90, e90, h⟩ := bd h
    have hk := Gr.after (Gr.of (kq_pfP e90)) hk
    obtain ⟨n94, e94, h⟩ := bd h
    have hk := Gr.trans hk (gr_O e94)
    obtain ⟨x98, e98, h⟩ := bd h
    have hk := Gr.after (t_X9_init e98) hk
    obtain ⟨μ101, e101, h⟩ := bd h
    have hk := Gr.after (Gr.of (kq_pfP e101)) hk
    have h := Option.some.inj h
    subst h
    exact hk)
  refine r_bI [.int (8 : Int32)] [.ref n81.1, .ref a0] (m_X2_init n81.1 (8 : Int32) n81.2 e87 (mm_N x87 - mm_N n81.2) (mm_Z x87 - mm_Z n81.2) gr_N gr_Z) ck_X2_init lk_X7_24 in_X2_init rfl rfl rfl (Nat.le_of_ble_eq_true rfl) ⟨Nat.le_of_ble_eq_true rfl, Nat.le_of_ble_eq_true rfl⟩ hC dX7_init_87 ?_
  obtain ⟨μ90, e90, h⟩ := Sat_bind h
  refine r_putP fk_X7_40 (Or.inr ⟨rfl, rfl, rfl, fl_X7_40⟩) rfl e90 dX7_init_90 ?_
  have hN := nz_tl (kq_pfP e90) hN
  refine r_aload_n dX7_init_93 0 rfl ?_
  obtain ⟨n94, e94, h⟩ := Sat_bind h
  have hN := nz_O e94 hN (by decide)
  have hC := bud_of hN (by
    obtain ⟨x, h, hx⟩ := id h
    have hk : Gr (n94.2) (n94.2) := Gr.rfl
    refine bud_le (?_ : Gr _ ((fun (q : Mm) => q) x)) (hB x hx)
    obtain ⟨x98, e98, h⟩ := bd h
    have hk := Gr.after (t_X9_init e98) hk
    obtain ⟨μ101, e101, h⟩ := bd h
    have hk := Gr.after (Gr.of (kq_pfP e101)) hk
    have h := Option.some.inj h
    subst h
    exact hk)
  refine r_newO e94 ⟨by decide, by decide⟩ kl_X7_43 (by decide) hC dX7_init_94 ?_
  refine r_dup dX7_init_97 rfl ?_
  obtain ⟨x98, e98, h⟩ := Sat_bind h
  have hN := nz_call (t_X9_init e98) hN
  have hC := bud_of hN (by
    obtain ⟨x, h, hx⟩ := id h
    have hk : Gr (x98) (x98) := Gr.rfl
    refine bud_le (?_ : Gr _ ((fun (q : Mm) => q) x)) (hB x hx)
    obtain ⟨μ101, e101, h⟩ := bd h
    have hk := Gr.after (Gr.of (kq_pfP e101)) hk
    have h := Option.some.inj h
    subst h
    exact hk)
  refine r_bI [] [.ref n94.1, .ref a0] (m_X9_init n94.1 n94.2 e98 (mm_N x98 - mm_N n94.2) (mm_Z x98 - mm_Z n94.2) gr_N gr_Z) ck_X9_init lk_X7_45 in_X9_init rfl rfl rfl (Nat.le_of_ble_eq_true rfl) ⟨Nat.le_of_ble_eq_true rfl, Nat.le_of_ble_eq_true rfl⟩ hC dX7_init_98 ?_
  obtain ⟨μ101, e101, h⟩ := Sat_bind h
  refine r_putP fk_X7_46 (Or.inr ⟨rfl, rfl, rfl, fl_X7_46⟩) rfl e101 dX7_init_101 ?_
  have hN := nz_tl (kq_pfP e101) hN
  refine r_widen hC.1 hC.2 ?_
  exact r_vreturn rfl (by rw [← Sat_eq h]; exact ⟨rfl, rfl⟩) dX7_init_104
theorem dX10_init_0 : decode cX10_init 0 = .ok (.aload_n 0, 1) := by decide +kernel
theorem dX10_init_1 : decode cX10_init 1 = .ok (.invokespecial 1, 3) := by decide +kernel
theorem dX10_init_4 : decode cX10_init 4 = .ok (.aload_n 0, 1) := by decide +kernel
theorem dX10_init_5 : decode cX10_init 5 = .ok (.new 7, 3) := by decide +kernel
theorem dX10_init_8 : decode cX10_init 8 = .ok (.dup, 1) := by decide +kernel
theorem dX10_init_9 : decode cX10_init 9 = .ok (.invokespecial 9, 3) := by decide +kernel
theorem dX10_init_12 : decode cX10_init 12 = .ok (.putfield 10, 3) := by decide +kernel
theorem dX10_init_15 : decode cX10_init 15 = .ok (.aload_n 0, 1) := by decide +kernel
theorem dX10_init_16 : decode cX10_init 16 = .ok (.new 16, 3) := by decide +kernel
theorem dX10_init_19 : decode cX10_init 19 = .ok (.dup, 1) := by decide +kernel
theorem dX10_init_20 : decode cX10_init 20 = .ok (.aload_n 0, 1) := by decide +kernel
theorem dX10_init_21 : decode cX10_init 21 = .ok (.getfield 10, 3) := by decide +kernel
theorem dX10_init_24 : decode cX10_init 24 = .ok (.invokespecial 18, 3) := by decide +kernel
theorem dX10_init_27 : decode cX10_init 27 = .ok (.putfield 21, 3) := by decide +kernel
theorem dX10_init_30 : decode cX10_init 30 = .ok (.aload_n 0, 1) := by decide +kernel
theorem dX10_init_31 : decode cX10_init 31 = .ok (.new 25, 3) := by decide +kernel
theorem dX10_init_34 : decode cX10_init 34 = .ok (.dup, 1) := by decide +kernel
theorem dX10_init_35 : decode cX10_init 35 = .ok (.invokespecial 27, 3) := by decide +kernel
theorem dX10_init_38 : decode cX10_init 38 = .ok (.putfield 28, 3) := by decide +kernel
theorem dX10_init_41 : decode cX10_init 41 = .ok (.aload_n 0, 1) := by decide +kernel
theorem dX10_init_42 : decode cX10_init 42 = .ok (.new 32, 3) := by decide +kernel
theorem dX10_init_45 : decode cX10_init 45 = .ok (.dup, 1) := by decide +kernel
theorem dX10_init_46 : decode cX10_init 46 = .ok (.invokespecial 34, 3) := by decide +kernel
theorem dX10_init_49 : decode cX10_init 49 = .ok (.putfield 35, 3) := by decide +kernel
theorem dX10_init_52 : decode cX10_init 52 = .ok (.aload_n 0, 1) := by decide +kernel
theorem dX10_init_53 : decode cX10_init 53 = .ok (.iconst 3, 1) := by decide +kernel
theorem dX10_init_54 : decode cX10_init 54 = .ok (.anewarray 32, 3) := by decide +kernel
theorem dX10_init_57 : decode cX10_init 57 = .ok (.putfield 39, 3) := by decide +kernel
theorem dX10_init_60 : decode cX10_init 60 = .ok (.aload_n 0, 1) := by decide +kernel
theorem dX10_init_61 : decode cX10_init 61 = .ok (.bipush 8, 2) := by decide +kernel
theorem dX10_init_63 : decode cX10_init 63 = .ok (.newarray .int, 2) := by decide +kernel
theorem dX10_init_65 : decode cX10_init 65 = .ok (.putfield 43, 3) := by decide +kernel
theorem dX10_init_68 : decode cX10_init 68 = .ok (.aload_n 0, 1) := by decide +kernel
theorem dX10_init_69 : decode cX10_init 69 = .ok (.bipush 8, 2) := by decide +kernel
theorem dX10_init_71 : decode cX10_init 71 = .ok (.newarray .int, 2) := by decide +kernel
theorem dX10_init_73 : decode cX10_init 73 = .ok (.putfield 47, 3) := by decide +kernel
theorem dX10_init_76 : decode cX10_init 76 = .ok (.aload_n 0, 1) := by decide +kernel
theorem dX10_init_77 : decode cX10_init 77 = .ok (.bipush 8, 2) := by decide +kernel
theorem dX10_init_79 : decode cX10_init 79 = .ok (.newarray .int, 2) := by decide +kernel
theorem dX10_init_81 : decode cX10_init 81 = .ok (.putfield 50, 3) := by decide +kernel
theorem dX10_init_84 : decode cX10_init 84 = .ok (.aload_n 0, 1) := by decide +kernel
theorem dX10_init_85 : decode cX10_init 85 = .ok (.bipush 21, 2) := by decide +kernel
theorem dX10_init_87 : decode cX10_init 87 = .ok (.newarray .int, 2) := by decide +kernel
theorem dX10_init_89 : decode cX10_init 89 = .ok (.putfield 53, 3) := by decide +kernel
theorem dX10_init_92 : decode cX10_init 92 = .ok (.aload_n 0, 1) := by decide +kernel
theorem dX10_init_93 : decode cX10_init 93 = .ok (.sipush 231, 3) := by decide +kernel
theorem dX10_init_96 : decode cX10_init 96 = .ok (.newarray .long, 2) := by decide +kernel
theorem dX10_init_98 : decode cX10_init 98 = .ok (.putfield 56, 3) := by decide +kernel
theorem dX10_init_101 : decode cX10_init 101 = .ok (.aload_n 0, 1) := by decide +kernel
theorem dX10_init_102 : decode cX10_init 102 = .ok (.new 60, 3) := by decide +kernel
theorem dX10_init_105 : decode cX10_init 105 = .ok (.dup, 1) := by decide +kernel
theorem dX10_init_106 : decode cX10_init 106 = .ok (.invokespecial 62, 3) := by decide +kernel
theorem dX10_init_109 : decode cX10_init 109 = .ok (.putfield 63, 3) := by decide +kernel
theorem dX10_init_112 : decode cX10_init 112 = .ok (.aload_n 0, 1) := by decide +kernel
theorem dX10_init_113 : decode cX10_init 113 = .ok (.new 60, 3) := by decide +kernel
theorem dX10_init_116 : decode cX10_init 116 = .ok (.dup, 1) := by decide +kernel
theorem dX10_init_117 : decode cX10_init 117 = .ok (.invokespecial 62, 3) := by decide +kernel
theorem dX10_init_120 : decode cX10_init 120 = .ok (.putfield 67, 3) := by decide +kernel
theorem dX10_init_123 : decode cX10_init 123 = .ok (.aload_n 0, 1) := by decide +kernel
theorem dX10_init_124 : decode cX10_init 124 = .ok (.new 70, 3) := by decide +kernel
theorem dX10_init_127 : decode cX10_init 127 = .ok (.dup, 1) := by decide +kernel
theorem dX10_init_128 : decode cX10_init 128 = .ok (.aload_n 0, 1) := by decide +kernel
theorem dX10_init_129 : decode cX10_init 129 = .ok (.getfield 21, 3) := by decide +kernel
theorem dX10_init_132 : decode cX10_init 132 = .ok (.aload_n 0, 1) := by decide +kernel
theorem dX10_init_133 : decode cX10_init 133 = .ok (.getfield 67, 3) := by decide +kernel
theorem dX10_init_136 : decode cX10_init 136 = .ok (.invokespecial 72, 3) := by decide +kernel
theorem dX10_init_139 : decode cX10_init 139 = .ok (.putfield 75, 3) := by decide +kernel
theorem dX10_init_142 : decode cX10_init 142 = .ok (.aload_n 0, 1) := by decide +kernel
theorem dX10_init_143 : decode cX10_init 143 = .ok (.new 79, 3) := by decide +kernel
theorem dX10_init_146 : decode cX10_init 146 = .ok (.dup, 1) := by decide +kernel
theorem dX10_init_147 : decode cX10_init 147 = .ok (.aload_n 0, 1) := by decide +kernel
theorem dX10_init_148 : decode cX10_init 148 = .ok (.getfield 63, 3) := by decide +kernel
theorem dX10_init_151 : decode cX10_init 151 = .ok (.invokespecial 81, 3) := by decide +kernel
theorem dX10_init_154 : decode cX10_init 154 = .ok (.putfield 84, 3) := by decide +kernel
theorem dX10_init_157 : decode cX10_init 157 = .ok (.aload_n 0, 1) := by decide +kernel
theorem dX10_init_158 : decode cX10_init 158 = .ok (.new 88, 3) := by decide +kernel
theorem dX10_init_161 : decode cX10_init 161 = .ok (.dup, 1) := by decide +kernel
theorem dX10_init_162 : decode cX10_init 162 = .ok (.aload_n 0, 1) := by decide +kernel
theorem dX10_init_163 : decode cX10_init 163 = .ok (.getfield 63, 3) := by decide +kernel
theorem dX10_init_166 : decode cX10_init 166 = .ok (.aload_n 0, 1) := by decide +kernel
theorem dX10_init_167 : decode cX10_init 167 = .ok (.getfield 84, 3) := by decide +kernel
theorem dX10_init_170 : decode cX10_init 170 = .ok (.aload_n 0, 1) := by decide +kernel
theorem dX10_init_171 : decode cX10_init 171 = .ok (.getfield 28, 3) := by decide +kernel
theorem dX10_init_174 : decode cX10_init 174 = .ok (.invokespecial 90, 3) := by decide +kernel
theorem dX10_init_177 : decode cX10_init 177 = .ok (.putfield 93, 3) := by decide +kernel
theorem dX10_init_180 : decode cX10_init 180 = .ok (.iconst 0, 1) := by decide +kernel
theorem dX10_init_181 : decode cX10_init 181 = .ok (.istore_n 1, 1) := by decide +kernel
theorem dX10_init_182 : decode cX10_init 182 = .ok (.iload_n 1, 1) := by decide +kernel
theorem dX10_init_183 : decode cX10_init 183 = .ok (.aload_n 0, 1) := by decide +kernel
theorem dX10_init_184 : decode cX10_init 184 = .ok (.getfield 39, 3) := by decide +kernel
theorem dX10_init_187 : decode cX10_init 187 = .ok (.arraylength, 1) := by decide +kernel
theorem dX10_init_188 : decode cX10_init 188 = .ok (.if_icmp .ge 22, 3) := by decide +kernel
theorem dX10_init_191 : decode cX10_init 191 = .ok (.aload_n 0, 1) := by decide +kernel
theorem dX10_init_192 : decode cX10_init 192 = .ok (.getfield 39, 3) := by decide +kernel
theorem dX10_init_195 : decode cX10_init 195 = .ok (.iload_n 1, 1) := by decide +kernel
theorem dX10_init_196 : decode cX10_init 196 = .ok (.new 32, 3) := by decide +kernel
theorem dX10_init_199 : decode cX10_init 199 = .ok (.dup, 1) := by decide +kernel
theorem dX10_init_200 : decode cX10_init 200 = .ok (.invokespecial 34, 3) := by decide +kernel
theorem dX10_init_203 : decode cX10_init 203 = .ok (.aastore, 1) := by decide +kernel
theorem dX10_init_204 : decode cX10_init 204 = .ok (.iinc 1 1, 3) := by decide +kernel
theorem dX10_init_207 : decode cX10_init 207 = .ok (.goto (-25), 3) := by decide +kernel
theorem dX10_init_210 : decode cX10_init 210 = .ok (.aload_n 0, 1) := by decide +kernel
theorem dX10_init_211 : decode cX10_init 211 = .ok (.getfield 63, 3) := by decide +kernel
theorem dX10_init_214 : decode cX10_init 214 = .ok (.invokevirtual 97, 3) := by decide +kernel
theorem dX10_init_217 : decode cX10_init 217 = .ok (.aload_n 0, 1) := by decide +kernel
theorem dX10_init_218 : decode cX10_init 218 = .ok (.getfield 63, 3) := by decide +kernel
theorem dX10_init_221 : decode cX10_init 221 = .ok (.getfield 100, 3) := by decide +kernel
theorem dX10_init_224 : decode cX10_init 224 = .ok (.aload_n 0, 1) := by decide +kernel
theorem dX10_init_225 : decode cX10_init 225 = .ok (.getfield 63, 3) := by decide +kernel
theorem dX10_init_228 : decode cX10_init 228 = .ok (.invokevirtual 104, 3) := by decide +kernel
theorem dX10_init_231 : decode cX10_init 231 = .ok (.aload_n 0, 1) := by decide +kernel
theorem dX10_init_232 : decode cX10_init 232 = .ok (.invokevirtual 109, 3) := by decide +kernel
theorem dX10_init_235 : decode cX10_init 235 = .ok (.return_, 1) := by decide +kernel
noncomputable def f_X10_init_J210 (a0 : Nat) (μ : Mm) : Option Mm :=
  (gf_P 11 13 a0 μ).bind fun x211 => (f_X7_clear x211 μ).bind fun x214 => (gf_P 11 13 a0 x214).bind fun x218 => (gf_P 8 8 x218 x214).bind fun x221 => (gf_P 11 13 a0 x214).bind fun x225 => (f_X9_prepare x221 x225 x214).bind fun x228 => (f_X10_settle a0 x228).bind fun x232 => some x232
noncomputable def f_X10_init_L182 (a0 : Nat) (s182 : Int32 × Mm) : Option ((Int32 × Mm) ⊕ (Mm)) :=
  (gf_P 11 7 a0 s182.2).bind fun x184 => (ga_len x184 s182.2).bind fun x187 => if x187 ≤ s182.1 then some (.inr s182.2) else (gf_P 11 7 a0 s182.2).bind fun x192 => (nw_O 4 s182.2).bind fun n196 => (f_X3_init n196.1 n196.2).bind fun x200 => (pa_P 24 x192 s182.1 n196.1 x200).bind fun μ203 => (some (s182.1 + (1 : Int32))).bind fun v204 => some (.inl (v204, μ203))
noncomputable def f_X10_init (a0 : Nat) (μ : Mm) : Option Mm :=
  if (mm_K μ a0).1 = 11 then (nw_O 6 μ).bind fun n5 => (f_X5_init n5.1 n5.2).bind fun x9 => (pf_P 11 0 a0 n5.1 x9).bind fun μ12 => (nw_O 7 μ12).bind fun n16 => (gf_P 11 0 a0 n16.2).bind fun x21 => (f_X6_init n16.1 x21 n16.2).bind fun x24 => (pf_P 11 1 a0 n16.1 x24).bind fun μ27 => (nw_O 1 μ27).bind fun n31 => (f_X0_init n31.1 n31.2).bind fun x35 => (pf_P 11 4 a0 n31.1 x35).bind fun μ38 => (nw_O 4 μ38).bind fun n42 => (f_X3_init n42.1 n42.2).bind fun x46 => (pf_P 11 6 a0 n42.1 x46).bind fun μ49 => (nw_A 24 (3 : Int32) μ49).bind fun n54 => (pf_P 11 7 a0 n54.1 n54.2).bind fun μ57 => (nw_A 20 (8 : Int32) μ57).bind fun n63 => (pf_P 11 8 a0 n63.1 n63.2).bind fun μ65 => (nw_A 20 (8 : Int32) μ65).bind fun n71 => (pf_P 11 9 a0 n71.1 n71.2).bind fun μ73 => (nw_A 20 (8 : Int32) μ73).bind fun n79 => (pf_P 11 10 a0 n79.1 n79.2).bind fun μ81 => (nw_A 20 (21 : Int32) μ81).bind fun n87 => (pf_P 11 11 a0 n87.1 n87.2).bind fun μ89 => (nw_A 21 (231 : Int32) μ89).bind fun n96 => (pf_P 11 12 a0 n96.1 n96.2).bind fun μ98 => (nw_O 8 μ98).bind fun n102 => (f_X7_init n102.1 n102.2).bind fun x106 => (pf_P 11 13 a0 n102.1 x106).bind fun μ109 => (nw_O 8 μ109).bind fun n113 => (f_X7_init n113.1 n113.2).bind fun x117 => (pf_P 11 14 a0 n113.1 x117).bind fun μ120 => (nw_O 9 μ120).bind fun n124 => (gf_P 11 1 a0 n124.2).bind fun x129 => (gf_P 11 14 a0 n124.2).bind fun x133 => (f_X8_init n124.1 x129 x133 n124.2).bind fun x136 => (pf_P 11 2 a0 n124.1 x136).bind fun μ139 => (nw_O 5 μ139).bind fun n143 => (gf_P 11 13 a0 n143.2).bind fun x148 => (f_X4_init n143.1 x148 n143.2).bind fun x151 => (pf_P 11 3 a0 n143.1 x151).bind fun μ154 => (nw_O 2 μ154).bind fun n158 => (gf_P 11 13 a0 n158.2).bind fun x163 => (gf_P 11 3 a0 n158.2).bind fun x167 => (gf_P 11 4 a0 n158.2).bind fun x171 => (f_X1_init n158.1 x163 x167 x171 n158.2).bind fun x174 => (pf_P 11 5 a0 n158.1 x174).bind fun μ177 => (whl (f_X10_init_L182 a0) ((0 : Int32), μ177)).bind (fun b182 => f_X10_init_J210 a0 b182) else none
abbrev Rn_X10_init (G : Gv) (Q : Option Value → Mm → Prop) (mc ms c s : Nat) (pc : Nat) (lv : List (Nat × Value)) (st : List Value) (μ : Mm) : Prop := Rn G RX10 cX10_init 2 none "<init>" (rmd 4 mc ms) (Zm G mc ms Q) c s pc lv st μ
theorem t_X10_init_J210 {a0 : Nat} {μ : Mm} {x : Mm} (h : f_X10_init_J210 a0 μ = some x) : Gr μ ((fun (q : Mm) => q) x) := by
  have hk : Gr μ μ := Gr.rfl
  obtain ⟨x211, e211, h⟩ := bd h
  obtain ⟨x214, e214, h⟩ := bd h
  have hk := Gr.after (Gr.of (t_X7_clear e214)) hk
  obtain ⟨x218, e218, h⟩ := bd h
  obtain ⟨x221, e221, h⟩ := bd h
  obtain ⟨x225, e225, h⟩ := bd h
  obtain ⟨x228, e228, h⟩ := bd h
  have hk := Gr.after (Gr.of (t_X9_prepare e228)) hk
  obtain ⟨x232, e232, h⟩ := bd h
  have hk := Gr.after (Gr.of (t_X10_settle e232)) hk
  have h := Option.some.inj h
  subst h
  exact hk
theorem t_X10_init_L182 {a0 : Nat} {s182 : Int32 × Mm} {x : ((Int32 × Mm) ⊕ (Mm))} (h : f_X10_init_L182 a0 s182 = some x) : Gr ((fun (q : Int32 × Mm) => q.2) s182) (sm (fun (q : Int32 × Mm) => q.2) (fun (q : Mm) => q) x) := by
  have hk : Gr (s182.2) (s182.2) := Gr.rfl
  obtain ⟨x184, e184, h⟩ := bd h
  obtain ⟨x187, e187, h⟩ := bd h
  rcases ite_e h with ⟨_, h⟩ | ⟨_, h⟩
  · have h := Option.some.inj h
    subst h
    exact hk
  · obtain ⟨x192, e192, h⟩ := bd h
    obtain ⟨n196, e196, h⟩ := bd h
    have hk := Gr.trans hk (gr_O e196)
    obtain ⟨x200, e200, h⟩ := bd h
    have hk := Gr.after (t_X3_init e200) hk
    obtain ⟨μ203, e203, h⟩ := bd h
    have hk := Gr.after (Gr.of (kq_paP e203)) hk
    obtain ⟨v204, e204, h⟩ := bd h
    have h := Option.some.inj h
    subst h
    exact hk
theorem t_X10_init_W182 {a0 : Nat} {s182 : Int32 × Mm} {b : Mm} (h : whl (f_X10_init_L182 a0) s182 = some b) : Gr ((fun (q : Int32 × Mm) => q.2) s182) ((fun (q : Mm) => q) b) :=
  whl_gr (g := (fun (q : Int32 × Mm) => q.2)) (gb := (fun (q : Mm) => q)) (fun s x hx => t_X10_init_L182 hx) h
theorem t_X10_init {a0 : Nat} {μ : Mm} {x : Mm} (h : f_X10_init a0 μ = some x) : Gr μ ((fun (q : Mm) => q) x) := by
  have hk : Gr μ μ := Gr.rfl
  obtain ⟨_, h⟩ := ite_p h
  obtain ⟨n5, e5, h⟩ := bd h
  have hk := Gr.trans hk (gr_O e5)
  obtain ⟨x9, e9, h⟩ := bd h
  have hk := Gr.after (t_X5_init e9) hk
  obtain ⟨μ12, e12, h⟩ := bd h
  have hk := Gr.after (Gr.of (kq_pfP e12)) hk
  obtain ⟨n16, e16, h⟩ := bd h
  have hk := Gr.trans hk (gr_O e16)
  obtain ⟨x21, e21, h⟩ := bd h
  obtain ⟨x24, e24, h⟩ := bd h
  have hk := Gr.after (Gr.of (t_X6_init e24)) hk
  obtain ⟨μ27, e27, h⟩ := bd h
  have hk := Gr.after (Gr.of (kq_pfP e27)) hk
  obtain ⟨n31, e31, h⟩ := bd h
  have hk := Gr.trans hk (gr_O e31)
  obtain ⟨x35, e35, h⟩ := bd h
  have hk := Gr.after (t_X0_init e35) hk
  obtain ⟨μ38, e38, h⟩ := bd h
  have hk := Gr.after (Gr.of (kq_pfP e38)) hk
  obtain ⟨n42, e42, h⟩ := bd h
  have hk := Gr.trans hk (gr_O e42)
  obtain ⟨x46, e46, h⟩ := bd h
  have hk := Gr.after (t_X3_init e46) hk
  obtain ⟨μ49, e49, h⟩ := bd h
  have hk := Gr.after (Gr.of (kq_pfP e49)) hk
  obtain ⟨n54, e54, h⟩ := bd h
  have hk := Gr.trans hk (gr_A (by decide) e54)
  obtain ⟨μ57, e57, h⟩ := bd h
  have hk := Gr.after (Gr.of (kq_pfP e57)) hk
  obtain ⟨n63, e63, h⟩ := bd h
  have hk := Gr.trans hk (gr_A (by decide) e63)
  obtain ⟨μ65, e65, h⟩ := bd h
  have hk := Gr.after (Gr.of (kq_pfP e65)) hk
  obtain ⟨n71, e71, h⟩ := bd h
  have hk := Gr.trans hk (gr_A (by decide) e71)
  obtain ⟨μ73, e73, h⟩ := bd h
  have hk := Gr.after (Gr.of (kq_pfP e73)) hk
  obtain ⟨n79, e79, h⟩ := bd h
  have hk := Gr.trans hk (gr_A (by decide) e79)
  obtain ⟨μ81, e81, h⟩ := bd h
  have hk := Gr.after (Gr.of (kq_pfP e81)) hk
  obtain ⟨n87, e87, h⟩ := bd h
  have hk := Gr.trans hk (gr_A (by decide) e87)
  obtain ⟨μ89, e89, h⟩ := bd h
  have hk := Gr.after (Gr.of (kq_pfP e89)) hk
  obtain ⟨n96, e96, h⟩ := bd h
  have hk := Gr.trans hk (gr_A (by decide) e96)
  obtain ⟨μ98, e98, h⟩ := bd h
  have hk := Gr.after (Gr.of (kq_pfP e98)) hk
  obtain ⟨n102, e102, h⟩ := bd h
  have hk := Gr.trans hk (gr_O e102)
  obtain ⟨x106, e106, h⟩ := bd h
  have hk := Gr.after (t_X7_init e106) hk
  obtain ⟨μ109, e109, h⟩ := bd h
  have hk := Gr.after (Gr.of (kq_pfP e109)) hk
  obtain ⟨n113, e113, h⟩ := bd h
  have hk := Gr.trans hk (gr_O e113)
  obtain ⟨x117, e117, h⟩ := bd h
  have hk := Gr.after (t_X7_init e117) hk
  obtain ⟨μ120, e120, h⟩ := bd h
  have hk := Gr.after (Gr.of (kq_pfP e120)) hk
  obtain ⟨n124, e124, h⟩ := bd h
  have hk := Gr.trans hk (gr_O e124)
  obtain ⟨x129, e129, h⟩ := bd h
  obtain ⟨x133, e133, h⟩ := bd h
  obtain ⟨x136, e136, h⟩ := bd h
  have hk := Gr.after (Gr.of (t_X8_init e136)) hk
  obtain ⟨μ139, e139, h⟩ := bd h
  have hk := Gr.after (Gr.of (kq_pfP e139)) hk
  obtain ⟨n143, e143, h⟩ := bd h
  have hk := Gr.trans hk (gr_O e143)
  obtain ⟨x148, e148, h⟩ := bd h
  obtain ⟨x151, e151, h⟩ := bd h
  have hk := Gr.after (t_X4_init e151) hk
  obtain ⟨μ154, e154, h⟩ := bd h
  have hk := Gr.after (Gr.of (kq_pfP e154)) hk
  obtain ⟨n158, e158, h⟩ := bd h
  have hk := Gr.trans hk (gr_O e158)
  obtain ⟨x163, e163, h⟩ := bd h
  obtain ⟨x167, e167, h⟩ := bd h
  obtain ⟨x171, e171, h⟩ := bd h
  obtain ⟨x174, e174, h⟩ := bd h
  have hk := Gr.after (t_X1_init e174) hk
  obtain ⟨μ177, e177, h⟩ := bd h
  have hk := Gr.after (Gr.of (kq_pfP e177)) hk
  obtain ⟨b182, w182, h⟩ := bd h
  have hk := Gr.after (t_X10_init_W182 w182) hk
  exact Gr.after (t_X10_init_J210 h) hk
set_option maxRecDepth 100000 in
set_option maxHeartbeats 4000000 in
theorem m_X10_init {G : Gv} (a0 : Nat) (μ : Mm) {r : Mm} (hx : f_X10_init a0 μ = some r) (mc ms : Nat) (hn : mm_N r ≤ mm_N μ + mc) (hz : mm_Z r ≤ mm_Z μ + ms) : Mt G yX10_init cX10_init 2 none 4 mc ms [.ref a0] μ (fun v μ' => v = none ∧ μ' = r) := by
  have hN : Nz μ μ 0 0 := ⟨rfl, rfl⟩
  have hC : 0 ≤ mc ∧ 0 ≤ ms := ⟨Nat.zero_le _, Nat.zero_le _⟩
  have hB : ∀ x : Mm, x = r → mm_N ((fun (q : Mm) => q) x) ≤ mm_N μ + mc ∧ mm_Z ((fun (q : Mm) => q) x) ≤ mm_Z μ + ms := fun x e => by subst e; exact ⟨hn, hz⟩
  refine Mt.of (by decide) (Nat.le_of_ble_eq_true rfl) ?_
  show Rn_X10_init G (fun v μ' => v = none ∧ μ' = r) mc ms 0 0 0 [(0, .ref a0)] [] μ
  obtain ⟨_, h⟩ := Sat_ifp (show Sat (f_X10_init a0 μ) (fun x => x = r) from ⟨_, hx, rfl⟩)
  have J210 : ∀ (a0_210 : Nat) (μ_210 : Mm), ∀ (c210 z210 : Nat), Nz μ μ_210 c210 z210 → c210 ≤ mc ∧ z210 ≤ ms → Sat (f_X10_init_J210 a0_210 μ_210) (fun x => x = r) → Rn_X10_init G (fun v μ' => v = none ∧ μ' = r) mc ms c210 z210 210 [(0, .ref a0_210)] [] μ_210 := by
    intro a0_210 μ_210 c210 z210 hN hC h
    refine r_aload_n dX10_init_210 0 rfl ?_
    obtain ⟨x211, e211, h⟩ := Sat_bind h
    refine r_getP fk_X10_63 rfl e211 dX10_init_211 ?_
    obtain ⟨x214, e214, h⟩ := Sat_bind h
    refine r_cV (t := 8) [] [] (m_X7_clear x211 μ_210 e214) ck_X7_clear lk_X10_97 in_X7_clear se_X7_clear (kd_of e214) ⟨rfl, by decide, by decide⟩ rfl rfl (Nat.le_of_ble_eq_true rfl) ⟨Nat.le_of_ble_eq_true rfl, Nat.le_of_ble_eq_true rfl⟩ hC dX10_init_214 ?_
    have hN := nz_tl (t_X7_clear e214) hN
    refine r_aload_n dX10_init_217 0 rfl ?_
    obtain ⟨x218, e218, h⟩ := Sat_bind h
    refine r_getP fk_X10_63 rfl e218 dX10_init_218 ?_
    obtain ⟨x221, e221, h⟩ := Sat_bind h
    refine r_getP fk_X10_100 rfl e221 dX10_init_221 ?_
    refine r_aload_n dX10_init_224 0 rfl ?_
    obtain ⟨x225, e225, h⟩ := Sat_bind h
    refine r_getP fk_X10_63 rfl e225 dX10_init_225 ?_
    obtain ⟨x228, e228, h⟩ := Sat_bind h
    refine r_cV (t := 10) [.ref x225] [] (m_X9_prepare x221 x225 x214 e228) ck_X9_prepare lk_X10_104 in_X9_prepare se_X9_prepare (kd_of e228) ⟨rfl, by decide, by decide⟩ rfl rfl (Nat.le_of_ble_eq_true rfl) ⟨Nat.le_of_ble_eq_true rfl, Nat.le_of_ble_eq_true rfl⟩ hC dX10_init_228 ?_
    have hN := nz_tl (t_X9_prepare e228) hN
    refine r_aload_n dX10_init_231 0 rfl ?_
    obtain ⟨x232, e232, h⟩ := Sat_bind h
    refine r_cV (t := 11) [] [] (m_X10_settle a0_210 x228 e232) ck_X10_settle lk_X10_109 in_X10_settle se_X10_settle (kd_of e232) ⟨rfl, by decide, by decide⟩ rfl rfl (Nat.le_of_ble_eq_true rfl) ⟨Nat.le_of_ble_eq_true rfl, Nat.le_of_ble_eq_true rfl⟩ hC dX10_init_232 ?_
    have hN := nz_tl (t_X10_settle e232) hN
    refine r_widen hC.1 hC.2 ?_
    exact r_vreturn rfl (by rw [← Sat_eq h]; exact ⟨rfl, rfl⟩) dX10_init_235
  refine r_aload_n dX10_init_0 0 rfl ?_
  refine r_objInit lo_X10_1 lo_in lo_co (Nat.le_of_ble_eq_true rfl) ⟨Nat.le_of_ble_eq_true rfl, Nat.le_of_ble_eq_true rfl⟩ dX10_init_1 ?_
  refine r_aload_n dX10_init_4 0 rfl ?_
  obtain ⟨n5, e5, h⟩ := Sat_bind h
  have hN := nz_O e5 hN (by decide)
  have hC := bud_of hN (by
    obtain ⟨x, h, hx⟩ := id h
    have hk : Gr (n5.2) (n5.2) := Gr.rfl
    refine bud_le (?_ : Gr _ ((fun (q : Mm) => q) x)) (hB x hx)
    obtain ⟨x9, e9, h⟩ := bd h
    have hk := Gr.after (t_X5_init e9) hk
    obtain ⟨μ12, e12, h⟩ := bd h
    have hk := Gr.after (Gr.of (kq_pfP e12)) hk
    obtain ⟨n16, e16, h⟩ := bd h
    have hk := Gr.trans hk (gr_O e16)
    obtain ⟨x21, e21, h⟩ := bd h
    obtain ⟨x24, e24, h⟩ := bd h
    have hk := Gr.after (Gr.of (t_X6_init e24)) hk
    obtain ⟨μ27, e27, h⟩ := bd h
    have hk := Gr.after (Gr.of (kq_pfP e27)) hk
    obtain ⟨n31, e31, h⟩ := bd h
    have hk := Gr.trans hk (gr_O e31)
    obtain ⟨x35, e35, h⟩ := bd h
    have hk := Gr.after (t_X0_init e35) hk
    obtain ⟨μ38, e38, h⟩ := bd h
    have hk := Gr.after (Gr.of (kq_pfP e38)) hk
    obtain ⟨n42, e42, h⟩ := bd h
    have hk := Gr.trans hk (gr_O e42)
    obtain ⟨x46, e46, h⟩ := bd h
    have hk := Gr.after (t_X3_init e46) hk
    obtain ⟨μ49, e49, h⟩ := bd h
    have hk := Gr.after (Gr.of (kq_pfP e49)) hk
    obtain ⟨n54, e54, h⟩ := bd h
    have hk := Gr.trans hk (gr_A (by decide) e54)
    obtain ⟨μ57, e57, h⟩ := bd h
    have hk := Gr.after (Gr.of (kq_pfP e57)) hk
    obtain ⟨n63, e63, h⟩ := bd h
    have hk := Gr.trans hk (gr_A (by decide) e63)
    obtain ⟨μ65, e65, h⟩ := bd h
    have hk := Gr.after (Gr.of (kq_pfP e65)) hk
    obtain ⟨n71, e71, h⟩ := bd h
    have hk := Gr.trans hk (gr_A (by decide) e71)
    obtain ⟨μ73, e73, h⟩ := bd h
    have hk := Gr.after (Gr.of (kq_pfP e73)) hk
    obtain ⟨n79, e79, h⟩ := bd h
    have hk := Gr.trans hk (gr_A (by decide) e79)
    obtain ⟨μ81, e81, h⟩ := bd h
    have hk := Gr.after (Gr.of (kq_pfP e81)) hk
    obtain ⟨n87, e87, h⟩ := bd h
    have hk := Gr.trans hk (gr_A (by decide) e87)
    obtain ⟨μ89, e89, h⟩ := bd h
    have hk := Gr.after (Gr.of (kq_pfP e89)) hk
    obtain ⟨n96, e96, h⟩ := bd h
    have hk := Gr.trans hk (gr_A (by decide) e96)
    obtain ⟨μ98, e98, h⟩ := bd h
    have hk := Gr.after (Gr.of (kq_pfP e98)) hk
    obtain ⟨n102, e102, h⟩ := bd h
    have hk := Gr.trans hk (gr_O e102)
    obtain ⟨x106, e106, h⟩ := bd h
    have hk := Gr.after (t_X7_init e106) hk
    obtain ⟨μ109, e109, h⟩ := bd h
    have hk := Gr.after (Gr.of (kq_pfP e109)) hk
    obtain ⟨n113, e113, h⟩ := bd h
    have hk := Gr.trans hk (gr_O e113)
    obtain ⟨x117, e117, h⟩ := bd h
    have hk := Gr.after (t_X7_init e117) hk
    obtain ⟨μ120, e120, h⟩ := bd h
    have hk := Gr.after (Gr.of (kq_pfP e120)) hk
    obtain ⟨n124, e124, h⟩ := bd h
    have hk := Gr.trans hk (gr_O e124)
    obtain ⟨x129, e129, h⟩ := bd h
    obtain ⟨x133, e133, h⟩ := bd h
    obtain ⟨x136, e136, h⟩ := bd h
    have hk := Gr.after (Gr.of (t_X8_init e136)) hk
    obtain ⟨μ139, e139, h⟩ := bd h
    have hk := Gr.after (Gr.of (kq_pfP e139)) hk
    obtain ⟨n143, e143, h⟩ := bd h
    have hk := Gr.trans hk (gr_O e143)
    obtain ⟨x148, e148, h⟩ := bd h
    obtain ⟨x151, e151, h⟩ := bd h
    have hk := Gr.after (t_X4_init e151) hk
    obtain ⟨μ154, e154, h⟩ := bd h
    have hk := Gr.after (Gr.of (kq_pfP e154)) hk
    obtain ⟨n158, e158, h⟩ := bd h
    have hk := Gr.trans hk (gr_O e158)
    obtain ⟨x163, e163, h⟩ := bd h
    obtain ⟨x167, e167, h⟩ := bd h
    obtain ⟨x171, e171, h⟩ := bd h
    obtain ⟨x174, e174, h⟩ := bd h
    have hk := Gr.after (t_X1_init e174) hk
    obtain ⟨μ177, e177, h⟩ := bd h
    have hk := Gr.after (Gr.of (kq_pfP e177)) hk
    obtain ⟨b182, w182, h⟩ := bd h
    have hk := Gr.after (t_X10_init_W182 w182) hk
    exact Gr.after (t_X10_init_J210 h) hk)
  refine r_newO e5 ⟨by decide, by decide⟩ kl_X10_7 (by decide) hC dX10_init_5 ?_
  refine r_dup dX10_init_8 rfl ?_
  obtain ⟨x9, e9, h⟩ := Sat_bind h
  have hN := nz_call (t_X5_init e9) hN
  have hC := bud_of hN (by
    obtain ⟨x, h, hx⟩ := id h
    have hk : Gr (x9) (x9) := Gr.rfl
    refine bud_le (?_ : Gr _ ((fun (q : Mm) => q) x)) (hB x hx)
    obtain ⟨μ12, e12, h⟩ := bd h
    have hk := Gr.after (Gr.of (kq_pfP e12)) hk
    obtain ⟨n16, e16, h⟩ := bd h
    have hk := Gr.trans hk (gr_O e16)
    obtain ⟨x21, e21, h⟩ := bd h
    obtain ⟨x24, e24, h⟩ := bd h
    have hk := Gr.after (Gr.of (t_X6_init e24)) hk
    obtain ⟨μ27, e27, h⟩ := bd h
    have hk := Gr.after (Gr.of (kq_pfP e27)) hk
    obtain ⟨n31, e31, h⟩ := bd h
    have hk := Gr.trans hk (gr_O e31)
    obtain ⟨x35, e35, h⟩ := bd h
    have hk := Gr.after (t_X0_init e35) hk
    obtain ⟨μ38, e38, h⟩ := bd h
    have hk := Gr.after (Gr.of (kq_pfP e38)) hk
    obtain ⟨n42, e42, h⟩ := bd h
    have hk := Gr.trans hk (gr_O e42)
    obtain ⟨x46, e46, h⟩ := bd h
    have hk := Gr.after (t_X3_init e46) hk
    obtain ⟨μ49, e49, h⟩ := bd h
    have hk := Gr.after (Gr.of (kq_pfP e49)) hk
    obtain ⟨n54, e54, h⟩ := bd h
    have hk := Gr.trans hk (gr_A (by decide) e54)
    obtain ⟨μ57, e57, h⟩ := bd h
    have hk := Gr.after (Gr.of (kq_pfP e57)) hk
    obtain ⟨n63, e63, h⟩ := bd h
    have hk := Gr.trans hk (gr_A (by decide) e63)
    obtain ⟨μ65, e65, h⟩ := bd h
    have hk := Gr.after (Gr.of (kq_pfP e65)) hk
    obtain ⟨n71, e71, h⟩ := bd h
    have hk := Gr.trans hk (gr_A (by decide) e71)
    obtain ⟨μ73, e73, h⟩ := bd h
    have hk := Gr.after (Gr.of (kq_pfP e73)) hk
    obtain ⟨n79, e79, h⟩ := bd h
    have hk := Gr.trans hk (gr_A (by decide) e79)
    obtain ⟨μ81, e81, h⟩ := bd h
    have hk := Gr.after (Gr.of (kq_pfP e81)) hk
    obtain ⟨n87, e87, h⟩ := bd h
    have hk := Gr.trans hk (gr_A (by decide) e87)
    obtain ⟨μ89, e89, h⟩ := bd h
    have hk := Gr.after (Gr.of (kq_pfP e89)) hk
    obtain ⟨n96, e96, h⟩ := bd h
    have hk := Gr.trans hk (gr_A (by decide) e96)
    obtain ⟨μ98, e98, h⟩ := bd h
    have hk := Gr.after (Gr.of (kq_pfP e98)) hk
    obtain ⟨n102, e102, h⟩ := bd h
    have hk := Gr.trans hk (gr_O e102)
    obtain ⟨x106, e106, h⟩ := bd h
    have hk := Gr.after (t_X7_init e106) hk
    obtain ⟨μ109, e109, h⟩ := bd h
    have hk := Gr.after (Gr.of (kq_pfP e109)) hk
    obtain ⟨n113, e113, h⟩ := bd h
    have hk := Gr.trans hk (gr_O e113)
    obtain ⟨x117, e117, h⟩ := bd h
    have hk := Gr.after (t_X7_init e117) hk
    obtain ⟨μ120, e120, h⟩ := bd h
    have hk := Gr.after (Gr.of (kq_pfP e120)) hk
    obtain ⟨n124, e124, h⟩ := bd h
    have hk := Gr.trans hk (gr_O e124)
    obtain ⟨x129, e129, h⟩ := bd h
    obtain ⟨x133, e133, h⟩ := bd h
    obtain ⟨x136, e136, h⟩ := bd h
    have hk := Gr.after (Gr.of (t_X8_init e136)) hk
    obtain ⟨μ139, e139, h⟩ := bd h
    have hk := Gr.after (Gr.of (kq_pfP e139)) hk
    obtain ⟨n143, e143, h⟩ := bd h
    have hk := Gr.trans hk (gr_O e143)
    obtain ⟨x148, e148, h⟩ := bd h
    obtain ⟨x151, e151, h⟩ := bd h
    have hk := Gr.after (t_X4_init e151) hk
    obtain ⟨μ154, e154, h⟩ := bd h
    have hk := Gr.after (Gr.of (kq_pfP e154)) hk
    obtain ⟨n158, e158, h⟩ := bd h
    have hk := Gr.trans hk (gr_O e158)
    obtain ⟨x163, e163, h⟩ := bd h
    obtain ⟨x167, e167, h⟩ := bd h
    obtain ⟨x171, e171, h⟩ := bd h
    obtain ⟨x174, e174, h⟩ := bd h
    have hk := Gr.after (t_X1_init e174) hk
    obtain ⟨μ177, e177, h⟩ := bd h
    have hk := Gr.after (Gr.of (kq_pfP e177)) hk
    obtain ⟨b182, w182, h⟩ := bd h
    have hk := Gr.after (t_X10_init_W182 w182) hk
    exact Gr.after (t_X10_init_J210 h) hk)
  refine r_bI [] [.ref n5.1, .ref a0] (m_X5_init n5.1 n5.2 e9 (mm_N x9 - mm_N n5.2) (mm_Z x9 - mm_Z n5.2) gr_N gr_Z) ck_X5_init lk_X10_9 in_X5_init rfl rfl rfl (Nat.le_of_ble_eq_true rfl) ⟨Nat.le_of_ble_eq_true rfl, Nat.le_of_ble_eq_true rfl⟩ hC dX10_init_9 ?_
  obtain ⟨μ12, e12, h⟩ := Sat_bind h
  refine r_putP fk_X10_10 (Or.inr ⟨rfl, rfl, rfl, fl_X10_10⟩) rfl e12 dX10_init_12 ?_
  have hN := nz_tl (kq_pfP e12) hN
  refine r_aload_n dX10_init_15 0 rfl ?_
  obtain ⟨n16, e16, h⟩ := Sat_bind h
  have hN := nz_O e16 hN (by decide)
  have hC := bud_of hN (by
    obtain ⟨x, h, hx⟩ := id h
    have hk : Gr (n16.2) (n16.2) := Gr.rfl
    refine bud_le (?_ : Gr _ ((fun (q : Mm) => q) x)) (hB x hx)
    obtain ⟨x21, e21, h⟩ := bd h
    obtain ⟨x24, e24, h⟩ := bd h
    have hk := Gr.after (Gr.of (t_X6_init e24)) hk
    obtain ⟨μ27, e27, h⟩ := bd h
    have hk := Gr.after (Gr.of (kq_pfP e27)) hk
    obtain ⟨n31, e31, h⟩ := bd h
    have hk := Gr.trans hk (gr_O e31)
    obtain ⟨x35, e35, h⟩ := bd h
    have hk := Gr.after (t_X0_init e35) hk
    obtain ⟨μ38, e38, h⟩ := bd h
    have hk := Gr.after (Gr.of (kq_pfP e38)) hk
    obtain ⟨n42, e42, h⟩ := bd h
    have hk := Gr.trans hk (gr_O e42)
    obtain ⟨x46, e46, h⟩ := bd h
    have hk := Gr.after (t_X3_init e46) hk
    obtain ⟨μ49, e49, h⟩ := bd h
    have hk := Gr.after (Gr.of (kq_pfP e49)) hk
    obtain ⟨n54, e54, h⟩ := bd h
    have hk := Gr.trans hk (gr_A (by decide) e54)
    obtain ⟨μ57, e57, h⟩ := bd h
    have hk := Gr.after (Gr.of (kq_pfP e57)) hk
    obtain ⟨n63, e63, h⟩ := bd h
    have hk := Gr.trans hk (gr_A (by decide) e63)
    obtain ⟨μ65, e65, h⟩ := bd h
    have hk := Gr.after (Gr.of (kq_pfP e65)) hk
    obtain ⟨n71, e71, h⟩ := bd h
    have hk := Gr.trans hk (gr_A (by decide) e71)
    obtain ⟨μ73, e73, h⟩ := bd h
    have hk := Gr.after (Gr.of (kq_pfP e73)) hk
    obtain ⟨n79, e79, h⟩ := bd h
    have hk := Gr.trans hk (gr_A (by decide) e79)
    obtain ⟨μ81, e81, h⟩ := bd h
    have hk := Gr.after (Gr.of (kq_pfP e81)) hk
    obtain ⟨n87, e87, h⟩ := bd h
    have hk := Gr.trans hk (gr_A (by decide) e87)
    obtain ⟨μ89, e89, h⟩ := bd h
    have hk := Gr.after (Gr.of (kq_pfP e89)) hk
    obtain ⟨n96, e96, h⟩ := bd h
    have hk := Gr.trans hk (gr_A (by decide) e96)
    obtain ⟨μ98, e98, h⟩ := bd h
    have hk := Gr.after (Gr.of (kq_pfP e98)) hk
    obtain ⟨n102, e102, h⟩ := bd h
    have hk := Gr.trans hk (gr_O e102)
    obtain ⟨x106, e106, h⟩ := bd h
    have hk := Gr.after (t_X7_init e106) hk
    obtain ⟨μ109, e109, h⟩ := bd h
    have hk := Gr.after (Gr.of (kq_pfP e109)) hk
    obtain ⟨n113, e113, h⟩ := bd h
    have hk := Gr.trans hk (gr_O e113)
    obtain ⟨x117, e117, h⟩ := bd h
    have hk := Gr.after (t_X7_init e117) hk
    obtain ⟨μ120, e120, h⟩ := bd h
    have hk := Gr.after (Gr.of (kq_pfP e120)) hk
    obtain ⟨n124, e124, h⟩ := bd h
    have hk := Gr.trans hk (gr_O e124)
    obtain ⟨x129, e129, h⟩ := bd h
    obtain ⟨x133, e133, h⟩ := bd h
    obtain ⟨x136, e136, h⟩ := bd h
    have hk := Gr.after (Gr.of (t_X8_init e136)) hk
    obtain ⟨μ139, e139, h⟩ := bd h
    have hk := Gr.after (Gr.of (kq_pfP e139)) hk
    obtain ⟨n143, e143, h⟩ := bd h
    have hk := Gr.trans hk (gr_O e143)
    obtain ⟨x148, e148, h⟩ := bd h
    obtain ⟨x151, e151, h⟩ := bd h
    have hk := Gr.after (t_X4_init e151) hk
    obtain ⟨μ154, e154, h⟩ := bd h
    have hk := Gr.after (Gr.of (kq_pfP e154)) hk
    obtain ⟨n158, e158, h⟩ := bd h
    have hk := Gr.trans hk (gr_O e158)
    obtain ⟨x163, e163, h⟩ := bd h
    obtain ⟨x167, e167, h⟩ := bd h
    obtain ⟨x171, e171, h⟩ := bd h
    obtain ⟨x174, e174, h⟩ := bd h
    have hk := Gr.after (t_X1_init e174) hk
    obtain ⟨μ177, e177, h⟩ := bd h
    have hk := Gr.after (Gr.of (kq_pfP e177)) hk
    obtain ⟨b182, w182, h⟩ := bd h
    have hk := Gr.after (t_X10_init_W182 w182) hk
    exact Gr.after (t_X10_init_J210 h) hk)
  refine r_newO e16 ⟨by decide, by decide⟩ kl_X10_16 (by decide) hC dX10_init_16 ?_
  refine r_dup dX10_init_19 rfl ?_
  refine r_aload_n dX10_init_20 0 rfl ?_
  obtain ⟨x21, e21, h⟩ := Sat_bind h
  refine r_getP fk_X10_10 rfl e21 dX10_init_21 ?_
  obtain ⟨x24, e24, h⟩ := Sat_bind h
  refine r_cI [.ref x21] [.ref n16.1, .ref a0] (m_X6_init n16.1 x21 n16.2 e24) ck_X6_init lk_X10_18 in_X6_init rfl rfl rfl (Nat.le_of_ble_eq_true rfl) ⟨Nat.le_of_ble_eq_true rfl, Nat.le_of_ble_eq_true rfl⟩ hC dX10_init_24 ?_
  have hN := nz_tl (t_X6_init e24) hN
  obtain ⟨μ27, e27, h⟩ := Sat_bind h
  refine r_putP fk_X10_21 (Or.inr ⟨rfl, rfl, rfl, fl_X10_21⟩) rfl e27 dX10_init_27 ?_
  have hN := nz_tl (kq_pfP e27) hN
  refine r_aload_n dX10_init_30 0 rfl ?_
  obtain ⟨n31, e31, h⟩ := Sat_bind h
  have hN := nz_O e31 hN (by decide)
  have hC := bud_of hN (by
    obtain ⟨x, h, hx⟩ := id h
    have hk : Gr (n31.2) (n31.2) := Gr.rfl
    refine bud_le (?_ : Gr _ ((fun (q : Mm) => q) x)) (hB x hx)
    obtain ⟨x35, e35, h⟩ := bd h
    have hk := Gr.after (t_X0_init e35) hk
    obtain ⟨μ38, e38, h⟩ := bd h
    have hk := Gr.after (Gr.of (kq_pfP e38)) hk
    obtain ⟨n42, e42, h⟩ := bd h
    have hk := Gr.trans hk (gr_O e42)
    obtain ⟨x46, e46, h⟩ := bd h
    have hk := Gr.after (t_X3_init e46) hk
    obtain ⟨μ49, e49, h⟩ := bd h
    have hk := Gr.after (Gr.of (kq_pfP e49)) hk
    obtain ⟨n54, e54, h⟩ := bd h
    have hk := Gr.trans hk (gr_A (by decide) e54)
    obtain ⟨μ57, e57, h⟩ := bd h
    have hk := Gr.after (Gr.of (kq_pfP e57)) hk
    obtain ⟨n63, e63, h⟩ := bd h
    have hk := Gr.trans hk (gr_A (by decide) e63)
    obtain ⟨μ65, e65, h⟩ := bd h
    have hk := Gr.after (Gr.of (kq_pfP e65)) hk
    obtain ⟨n71, e71, h⟩ := bd h
    have hk := Gr.trans hk (gr_A (by decide) e71)
    obtain ⟨μ73, e73, h⟩ := bd h
    have hk := Gr.after (Gr.of (kq_pfP e73)) hk
    obtain ⟨n79, e79, h⟩ := bd h
    have hk := Gr.trans hk (gr_A (by decide) e79)
    obtain ⟨μ81, e81, h⟩ := bd h
    have hk := Gr.after (Gr.of (kq_pfP e81)) hk
    obtain ⟨n87, e87, h⟩ := bd h
    have hk := Gr.trans hk (gr_A (by decide) e87)
    obtain ⟨μ89, e89, h⟩ := bd h
    have hk := Gr.after (Gr.of (kq_pfP e89)) hk
    obtain ⟨n96, e96, h⟩ := bd h
    have hk := Gr.trans hk (gr_A (by decide) e96)
    obtain ⟨μ98, e98, h⟩ := bd h
    have hk := Gr.after (Gr.of (kq_pfP e98)) hk
    obtain ⟨n102, e102, h⟩ := bd h
    have hk := Gr.trans hk (gr_O e102)
    obtain ⟨x106, e106, h⟩ := bd h
    have hk := Gr.after (t_X7_init e106) hk
    obtain ⟨μ109, e109, h⟩ := bd h
    have hk := Gr.after (Gr.of (kq_pfP e109)) hk
    obtain ⟨n113, e113, h⟩ := bd h
    have hk := Gr.trans hk (gr_O e113)
    obtain ⟨x117, e117, h⟩ := bd h
    have hk := Gr.after (t_X7_init e117) hk
    obtain ⟨μ120, e120, h⟩ := bd h
    have hk := Gr.after (Gr.of (kq_pfP e120)) hk
    obtain ⟨n124, e124, h⟩ := bd h
    have hk := Gr.trans hk (gr_O e124)
    obtain ⟨x129, e129, h⟩ := bd h
    obtain ⟨x133, e133, h⟩ := bd h
    obtain ⟨x136, e136, h⟩ := bd h
    have hk := Gr.after (Gr.of (t_X8_init e136)) hk
    obtain ⟨μ139, e139, h⟩ := bd h
    have hk := Gr.after (Gr.of (kq_pfP e139)) hk
    obtain ⟨n143, e143, h⟩ := bd h
    have hk := Gr.trans hk (gr_O e143)
    obtain ⟨x148, e148, h⟩ := bd h
    obtain ⟨x151, e151, h⟩ := bd h
    have hk := Gr.after (t_X4_init e151) hk
    obtain ⟨μ154, e154, h⟩ := bd h
    have hk := Gr.after (Gr.of (kq_pfP e154)) hk
    obtain ⟨n158, e158, h⟩ := bd h
    have hk := Gr.trans hk (gr_O e158)
    obtain ⟨x163, e163, h⟩ := bd h
    obtain ⟨x167, e167, h⟩ := bd h
    obtain ⟨x171, e171, h⟩ := bd h
    obtain ⟨x174, e174, h⟩ := bd h
    have hk := Gr.after (t_X1_init e174) hk
    obtain ⟨μ177, e177, h⟩ := bd h
    have hk := Gr.after (Gr.of (kq_pfP e177)) hk
    obtain ⟨b182, w182, h⟩ := bd h
    have hk := Gr.after (t_X10_init_W182 w182) hk
    exact Gr.after (t_X10_init_J210 h) hk)
  refine r_newO e31 ⟨by decide, by decide⟩ kl_X10_25 (by decide) hC dX10_init_31 ?_
  refine r_dup dX10_init_34 rfl ?_
  obtain ⟨x35, e35, h⟩ := Sat_bind h
  have hN := nz_call (t_X0_init e35) hN
  have hC := bud_of hN (by
    obtain ⟨x, h, hx⟩ := id h
    have hk : Gr (x35) (x35) := Gr.rfl
    refine bud_le (?_ : Gr _ ((fun (q : Mm) => q) x)) (hB x hx)
    obtain ⟨μ38, e38, h⟩ := bd h
    have hk := Gr.after (Gr.of (kq_pfP e38)) hk
    obtain ⟨n42, e42, h⟩ := bd h
    have hk := Gr.trans hk (gr_O e42)
    obtain ⟨x46, e46, h⟩ := bd h
    have hk := Gr.after (t_X3_init e46) hk
    obtain ⟨μ49, e49, h⟩ := bd h
    have hk := Gr.after (Gr.of (kq_pfP e49)) hk
    obtain ⟨n54, e54, h⟩ := bd h
    have hk := Gr.trans hk (gr_A (by decide) e54)
    obtain ⟨μ57, e57, h⟩ := bd h
    have hk := Gr.after (Gr.of (kq_pfP e57)) hk
    obtain ⟨n63, e63, h⟩ := bd h
    have hk := Gr.trans hk (gr_A (by decide) e63)
    obtain ⟨μ65, e65, h⟩ := bd h
    have hk := Gr.after (Gr.of (kq_pfP e65)) hk
    obtain ⟨n71, e71, h⟩ := bd h
    have hk := Gr.trans hk (gr_A (by decide) e71)
    obtain ⟨μ73, e73, h⟩ := bd h
    have hk := Gr.after (Gr.of (kq_pfP e73)) hk
    obtain ⟨n79, e79, h⟩ := bd h
    have hk := Gr.trans hk (gr_A (by decide) e79)
    obtain ⟨μ81, e81, h⟩ := bd h
    have hk := Gr.after (Gr.of (kq_pfP e81)) hk
    obtain ⟨n87, e87, h⟩ := bd h
    have hk := Gr.trans hk (gr_A (by decide) e87)
    obtain ⟨μ89, e89, h⟩ := bd h
    have hk := Gr.after (Gr.of (kq_pfP e89)) hk
    obtain ⟨n96, e96, h⟩ := bd h
    have hk := Gr.trans hk (gr_A (by decide) e96)
    obtain ⟨μ98, e98, h⟩ := bd h
    have hk := Gr.after (Gr.of (kq_pfP e98)) hk
    obtain ⟨n102, e102, h⟩ := bd h
    have hk := Gr.trans hk (gr_O e102)
    obtain ⟨x106, e106, h⟩ := bd h
    have hk := Gr.after (t_X7_init e106) hk
    obtain ⟨μ109, e109, h⟩ := bd h
    have hk := Gr.after (Gr.of (kq_pfP e109)) hk
    obtain ⟨n113, e113, h⟩ := bd h
    have hk := Gr.trans hk (gr_O e113)
    obtain ⟨x117, e117, h⟩ := bd h
    have hk := Gr.after (t_X7_init e117) hk
    obtain ⟨μ120, e120, h⟩ := bd h
    have hk := Gr.after (Gr.of (kq_pfP e120)) hk
    obtain ⟨n124, e124, h⟩ := bd h
    have hk := Gr.trans hk (gr_O e124)
    obtain ⟨x129, e129, h⟩ := bd h
    obtain ⟨x133, e133, h⟩ := bd h
    obtain ⟨x136, e136, h⟩ := bd h
    have hk := Gr.after (Gr.of (t_X8_init e136)) hk
    obtain ⟨μ139, e139, h⟩ := bd h
    have hk := Gr.after (Gr.of (kq_pfP e139)) hk
    obtain ⟨n143, e143, h⟩ := bd h
    have hk := Gr.trans hk (gr_O e143)
    obtain ⟨x148, e148, h⟩ := bd h
    obtain ⟨x151, e151, h⟩ := bd h
    have hk := Gr.after (t_X4_init e151) hk
    obtain ⟨μ154, e154, h⟩ := bd h
    have hk := Gr.after (Gr.of (kq_pfP e154)) hk
    obtain ⟨n158, e158, h⟩ := bd h
    have hk := Gr.trans hk (gr_O e158)
    obtain ⟨x163, e163, h⟩ := bd h
    obtain ⟨x167, e167, h⟩ := bd h
    obtain ⟨x171, e171, h⟩ := bd h
    obtain ⟨x174, e174, h⟩ := bd h
    have hk := Gr.after (t_X1_init e174) hk
    obtain ⟨μ177, e177, h⟩ := bd h
    have hk := Gr.after (Gr.of (kq_pfP e177)) hk
    obtain ⟨b182, w182, h⟩ := bd h
    have hk := Gr.after (t_X10_init_W182 w182) hk
    exact Gr.after (t_X10_init_J210 h) hk)
  refine r_bI [] [.ref n31.1, .ref a0] (m_X0_init n31.1 n31.2 e35 (mm_N x35 - mm_N n31.2) (mm_Z x35 - mm_Z n31.2) gr_N gr_Z) ck_X0_init lk_X10_27 in_X0_init rfl rfl rfl (Nat.le_of_ble_eq_true rfl) ⟨Nat.le_of_ble_eq_true rfl, Nat.le_of_ble_eq_true rfl⟩ hC dX10_init_35 ?_
  obtain ⟨μ38, e38, h⟩ := Sat_bind h
  refine r_putP fk_X10_28 (Or.inr ⟨rfl, rfl, rfl, fl_X10_28⟩) rfl e38 dX10_init_38 ?_
  have hN := nz_tl (kq_pfP e38) hN
  refine r_aload_n dX10_init_41 0 rfl ?_
  obtain ⟨n42, e42, h⟩ := Sat_bind h
  have hN := nz_O e42 hN (by decide)
  have hC := bud_of hN (by
    obtain ⟨x, h, hx⟩ := id h
    have hk : Gr (n42.2) (n42.2) := Gr.rfl
    refine bud_le (?_ : Gr _ ((fun (q : Mm) => q) x)) (hB x hx)
    obtain ⟨x46, e46, h⟩ := bd h
    have hk := Gr.after (t_X3_init e46) hk
    obtain ⟨μ49, e49, h⟩ := bd h
    have hk := Gr.after (Gr.of (kq_pfP e49)) hk
    obtain ⟨n54, e54, h⟩ := bd h
    have hk := Gr.trans hk (gr_A (by decide) e54)
    obtain ⟨μ57, e57, h⟩ := bd h
    have hk := Gr.after (Gr.of (kq_pfP e57)) hk
    obtain ⟨n63, e63, h⟩ := bd h
    have hk := Gr.trans hk (gr_A (by decide) e63)
    obtain ⟨μ65, e65, h⟩ := bd h
    have hk := Gr.after (Gr.of (kq_pfP e65)) hk
    obtain ⟨n71, e71, h⟩ := bd h
    have hk := Gr.trans hk (gr_A (by decide) e71)
    obtain ⟨μ73, e73, h⟩ := bd h
    have hk := Gr.after (Gr.of (kq_pfP e73)) hk
    obtain ⟨n79, e79, h⟩ := bd h
    have hk := Gr.trans hk (gr_A (by decide) e79)
    obtain ⟨μ81, e81, h⟩ := bd h
    have hk := Gr.after (Gr.of (kq_pfP e81)) hk
    obtain ⟨n87, e87, h⟩ := bd h
    have hk := Gr.trans hk (gr_A (by decide) e87)
    obtain ⟨μ89, e89, h⟩ := bd h
    have hk := Gr.after (Gr.of (kq_pfP e89)) hk
    obtain ⟨n96, e96, h⟩ := bd h
    have hk := Gr.trans hk (gr_A (by decide) e96)
    obtain ⟨μ98, e98, h⟩ := bd h
    have hk := Gr.after (Gr.of (kq_pfP e98)) hk
    obtain ⟨n102, e102, h⟩ := bd h
    have hk := Gr.trans hk (gr_O e102)
    obtain ⟨x106, e106, h⟩ := bd h
    have hk := Gr.after (t_X7_init e106) hk
    obtain ⟨μ109, e109, h⟩ := bd h
    have hk := Gr.after (Gr.of (kq_pfP e109)) hk
    obtain ⟨n113, e113, h⟩ := bd h
    have hk := Gr.trans hk (gr_O e113)
    obtain ⟨x117, e117, h⟩ := bd h
    have hk := Gr.after (t_X7_init e117) hk
    obtain ⟨μ120, e120, h⟩ := bd h
    have hk := Gr.after (Gr.of (kq_pfP e120)) hk
    obtain ⟨n124, e124, h⟩ := bd h
    have hk := Gr.trans hk (gr_O e124)
    obtain ⟨x129, e129, h⟩ := bd h
    obtain ⟨x133, e133, h⟩ := bd h
    obtain ⟨x136, e136, h⟩ := bd h
    have hk := Gr.after (Gr.of (t_X8_init e136)) hk
    obtain ⟨μ139, e139, h⟩ := bd h
    have hk := Gr.after (Gr.of (kq_pfP e139)) hk
    obtain ⟨n143, e143, h⟩ := bd h
    have hk := Gr.trans hk (gr_O e143)
    obtain ⟨x148, e148, h⟩ := bd h
    obtain ⟨x151, e151, h⟩ := bd h
    have hk := Gr.after (t_X4_init e151) hk
    obtain ⟨μ154, e154, h⟩ := bd h
    have hk := Gr.after (Gr.of (kq_pfP e154)) hk
    obtain ⟨n158, e158, h⟩ := bd h
    have hk := Gr.trans hk (gr_O e158)
    obtain ⟨x163, e163, h⟩ := bd h
    obtain ⟨x167, e167, h⟩ := bd h
    obtain ⟨x171, e171, h⟩ := bd h
    obtain ⟨x174, e174, h⟩ := bd h
    have hk := Gr.after (t_X1_init e174) hk
    obtain ⟨μ177, e177, h⟩ := bd h
    have hk := Gr.after (Gr.of (kq_pfP e177)) hk
    obtain ⟨b182, w182, h⟩ := bd h
    have hk := Gr.after (t_X10_init_W182 w182) hk
    exact Gr.after (t_X10_init_J210 h) hk)
  refine r_newO e42 ⟨by decide, by decide⟩ kl_X10_32 (by decide) hC dX10_init_42 ?_
  refine r_dup dX10_init_45 rfl ?_
  obtain ⟨x46, e46, h⟩ := Sat_bind h
  have hN := nz_call (t_X3_init e46) hN
  have hC := bud_of hN (by
    obtain ⟨x, h, hx⟩ := id h
    have hk : Gr (x46) (x46) := Gr.rfl
    refine bud_le (?_ : Gr _ ((fun (q : Mm) => q) x)) (hB x hx)
    obtain ⟨μ49, e49, h⟩ := bd h
    have hk := Gr.after (Gr.of (kq_pfP e49)) hk
    obtain ⟨n54, e54, h⟩ := bd h
    have hk := Gr.trans hk (gr_A (by decide) e54)
    obtain ⟨μ57, e57, h⟩ := bd h
    have hk := Gr.after (Gr.of (kq_pfP e57)) hk
    obtain ⟨n63, e63, h⟩ := bd h
    have hk := Gr.trans hk (gr_A (by decide) e63)
    obtain ⟨μ65, e65, h⟩ := bd h
    have hk := Gr.after (Gr.of (kq_pfP e65)) hk
    obtain ⟨n71, e71, h⟩ := bd h
    have hk := Gr.trans hk (gr_A (by decide) e71)
    obtain ⟨μ73, e73, h⟩ := bd h
    have hk := Gr.after (Gr.of (kq_pfP e73)) hk
    obtain ⟨n79, e79, h⟩ := bd h
    have hk := Gr.trans hk (gr_A (by decide) e79)
    obtain ⟨μ81, e81, h⟩ := bd h
    have hk := Gr.after (Gr.of (kq_pfP e81)) hk
    obtain ⟨n87, e87, h⟩ := bd h
    have hk := Gr.trans hk (gr_A (by decide) e87)
    obtain ⟨μ89, e89, h⟩ := bd h
    have hk := Gr.after (Gr.of (kq_pfP e89)) hk
    obtain ⟨n96, e96, h⟩ := bd h
    have hk := Gr.trans hk (gr_A (by decide) e96)
    obtain ⟨μ98, e98, h⟩ := bd h
    have hk := Gr.after (Gr.of (kq_pfP e98)) hk
    obtain ⟨n102, e102, h⟩ := bd h
    have hk := Gr.trans hk (gr_O e102)
    obtain ⟨x106, e106, h⟩ := bd h
    have hk := Gr.after (t_X7_init e106) hk
    obtain ⟨μ109, e109, h⟩ := bd h
    have hk := Gr.after (Gr.of (kq_pfP e109)) hk
    obtain ⟨n113, e113, h⟩ := bd h
    have hk := Gr.trans hk (gr_O e113)
    obtain ⟨x117, e117, h⟩ := bd h
    have hk := Gr.after (t_X7_init e117) hk
    obtain ⟨μ120, e120, h⟩ := bd h
    have hk := Gr.after (Gr.of (kq_pfP e120)) hk
    obtain ⟨n124, e124, h⟩ := bd h
    have hk := Gr.trans hk (gr_O e124)
    obtain ⟨x129, e129, h⟩ := bd h
    obtain ⟨x133, e133, h⟩ := bd h
    obtain ⟨x136, e136, h⟩ := bd h
    have hk := Gr.after (Gr.of (t_X8_init e136)) hk
    obtain ⟨μ139, e139, h⟩ := bd h
    have hk := Gr.after (Gr.of (kq_pfP e139)) hk
    obtain ⟨n143, e143, h⟩ := bd h
    have hk := Gr.trans hk (gr_O e143)
    obtain ⟨x148, e148, h⟩ := bd h
    obtain ⟨x151, e151, h⟩ := bd h
    have hk := Gr.after (t_X4_init e151) hk
    obtain ⟨μ154, e154, h⟩ := bd h
    have hk := Gr.after (Gr.of (kq_pfP e154)) hk
    obtain ⟨n158, e158, h⟩ := bd h
    have hk := Gr.trans hk (gr_O e158)
    obtain ⟨x163, e163, h⟩ := bd h
    obtain ⟨x167, e167, h⟩ := bd h
    obtain ⟨x171, e171, h⟩ := bd h
    obtain ⟨x174, e174, h⟩ := bd h
    have hk := Gr.after (t_X1_init e174) hk
    obtain ⟨μ177, e177, h⟩ := bd h
    have hk := Gr.after (Gr.of (kq_pfP e177)) hk
    obtain ⟨b182, w182, h⟩ := bd h
    have hk := Gr.after (t_X10_init_W182 w182) hk
    exact Gr.after (t_X10_init_J210 h) hk)
  refine r_bI [] [.ref n42.1, .ref a0] (m_X3_init n42.1 n42.2 e46 (mm_N x46 - mm_N n42.2) (mm_Z x46 - mm_Z n42.2) gr_N gr_Z) ck_X3_init lk_X10_34 in_X3_init rfl rfl rfl (Nat.le_of_ble_eq_true rfl) ⟨Nat.le_of_ble_eq_true rfl, Nat.le_of_ble_eq_true rfl⟩ hC dX10_init_46 ?_
  obtain ⟨μ49, e49, h⟩ := Sat_bind h
  refine r_putP fk_X10_35 (Or.inr ⟨rfl, rfl, rfl, fl_X10_35⟩) rfl e49 dX10_init_49 ?_
  have hN := nz_tl (kq_pfP e49) hN
  refine r_aload_n dX10_init_52 0 rfl ?_
  refine r_iconst (v := 3) dX10_init_53 (by decide) ?_
  obtain ⟨n54, e54, h⟩ := Sat_bind h
  have hN := nz_A (by decide) e54 hN
  have hC := bud_of hN (by
    obtain ⟨x, h, hx⟩ := id h
    have hk : Gr (n54.2) (n54.2) := Gr.rfl
    refine bud_le (?_ : Gr _ ((fun (q : Mm) => q) x)) (hB x hx)
    obtain ⟨μ57, e57, h⟩ := bd h
    have hk := Gr.after (Gr.of (kq_pfP e57)) hk
    obtain ⟨n63, e63, h⟩ := bd h
    have hk := Gr.trans hk (gr_A (by decide) e63)
    obtain ⟨μ65, e65, h⟩ := bd h
    have hk := Gr.after (Gr.of (kq_pfP e65)) hk
    obtain ⟨n71, e71, h⟩ := bd h
    have hk := Gr.trans hk (gr_A (by decide) e71)
    obtain ⟨μ73, e73, h⟩ := bd h
    have hk := Gr.after (Gr.of (kq_pfP e73)) hk
    obtain ⟨n79, e79, h⟩ := bd h
    have hk := Gr.trans hk (gr_A (by decide) e79)
    obtain ⟨μ81, e81, h⟩ := bd h
    have hk := Gr.after (Gr.of (kq_pfP e81)) hk
    obtain ⟨n87, e87, h⟩ := bd h
    have hk := Gr.trans hk (gr_A (by decide) e87)
    obtain ⟨μ89, e89, h⟩ := bd h
    have hk := Gr.after (Gr.of (kq_pfP e89)) hk
    obtain ⟨n96, e96, h⟩ := bd h
    have hk := Gr.trans hk (gr_A (by decide) e96)
    obtain ⟨μ98, e98, h⟩ := bd h
    have hk := Gr.after (Gr.of (kq_pfP e98)) hk
    obtain ⟨n102, e102, h⟩ := bd h
    have hk := Gr.trans hk (gr_O e102)
    obtain ⟨x106, e106, h⟩ := bd h
    have hk := Gr.after (t_X7_init e106) hk
    obtain ⟨μ109, e109, h⟩ := bd h
    have hk := Gr.after (Gr.of (kq_pfP e109)) hk
    obtain ⟨n113, e113, h⟩ := bd h
    have hk := Gr.trans hk (gr_O e113)
    obtain ⟨x117, e117, h⟩ := bd h
    have hk := Gr.after (t_X7_init e117) hk
    obtain ⟨μ120, e120, h⟩ := bd h
    have hk := Gr.after (Gr.of (kq_pfP e120)) hk
    obtain ⟨n124, e124, h⟩ := bd h
    have hk := Gr.trans hk (gr_O e124)
    obtain ⟨x129, e129, h⟩ := bd h
    obtain ⟨x133, e133, h⟩ := bd h
    obtain ⟨x136, e136, h⟩ := bd h
    have hk := Gr.after (Gr.of (t_X8_init e136)) hk
    obtain ⟨μ139, e139, h⟩ := bd h
    have hk := Gr.after (Gr.of (kq_pfP e139)) hk
    obtain ⟨n143, e143, h⟩ := bd h
    have hk := Gr.trans hk (gr_O e143)
    obtain ⟨x148, e148, h⟩ := bd h
    obtain ⟨x151, e151, h⟩ := bd h
    have hk := Gr.after (t_X4_init e151) hk
    obtain ⟨μ154, e154, h⟩ := bd h
    have hk := Gr.after (Gr.of (kq_pfP e154)) hk
    obtain ⟨n158, e158, h⟩ := bd h
    have hk := Gr.trans hk (gr_O e158)
    obtain ⟨x163, e163, h⟩ := bd h
    obtain ⟨x167, e167, h⟩ := bd h
    obtain ⟨x171, e171, h⟩ := bd h
    obtain ⟨x174, e174, h⟩ := bd h
    have hk := Gr.after (t_X1_init e174) hk
    obtain ⟨μ177, e177, h⟩ := bd h
    have hk := Gr.after (Gr.of (kq_pfP e177)) hk
    obtain ⟨b182, w182, h⟩ := bd h
    have hk := Gr.after (t_X10_init_W182 w182) hk
    exact Gr.after (t_X10_init_J210 h) hk)
  refine r_anew e54 kl_X10_32 hC dX10_init_54 ?_
  obtain ⟨μ57, e57, h⟩ := Sat_bind h
  refine r_putP fk_X10_39 (Or.inr ⟨rfl, rfl, rfl, fl_X10_39⟩) rfl e57 dX10_init_57 ?_
  have hN := nz_tl (kq_pfP e57) hN
  refine r_aload_n dX10_init_60 0 rfl ?_
  refine r_bipush (v := 8) dX10_init_61 (by decide) ?_
  obtain ⟨n63, e63, h⟩ := Sat_bind h
  have hN := nz_A (by decide) e63 hN
  have hC := bud_of hN (by
    obtain ⟨x, h, hx⟩ := id h
    have hk : Gr (n63.2) (n63.2) := Gr.rfl
    refine bud_le (?_ : Gr _ ((fun (q : Mm) => q) x)) (hB x hx)
    obtain ⟨μ65, e65, h⟩ := bd h
    have hk := Gr.after (Gr.of (kq_pfP e65)) hk
    obtain ⟨n71, e71, h⟩ := bd h
    have hk := Gr.trans hk (gr_A (by decide) e71)
    obtain ⟨μ73, e73, h⟩ := bd h
    have hk := Gr.after (Gr.of (kq_pfP e73)) hk
    obtain ⟨n79, e79, h⟩ := bd h
    have hk := Gr.trans hk (gr_A (by decide) e79)
    obtain ⟨μ81, e81, h⟩ := bd h
    have hk := Gr.after (Gr.of (kq_pfP e81)) hk
    obtain ⟨n87, e87, h⟩ := bd h
    have hk := Gr.trans hk (gr_A (by decide) e87)
    obtain ⟨μ89, e89, h⟩ := bd h
    have hk := Gr.after (Gr.of (kq_pfP e89)) hk
    obtain ⟨n96, e96, h⟩ := bd h
    have hk := Gr.trans hk (gr_A (by decide) e96)
    obtain ⟨μ98, e98, h⟩ := bd h
    have hk := Gr.after (Gr.of (kq_pfP e98)) hk
    obtain ⟨n102, e102, h⟩ := bd h
    have hk := Gr.trans hk (gr_O e102)
    obtain ⟨x106, e106, h⟩ := bd h
    have hk := Gr.after (t_X7_init e106) hk
    obtain ⟨μ109, e109, h⟩ := bd h
    have hk := Gr.after (Gr.of (kq_pfP e109)) hk
    obtain ⟨n113, e113, h⟩ := bd h
    have hk := Gr.trans hk (gr_O e113)
    obtain ⟨x117, e117, h⟩ := bd h
    have hk := Gr.after (t_X7_init e117) hk
    obtain ⟨μ120, e120, h⟩ := bd h
    have hk := Gr.after (Gr.of (kq_pfP e120)) hk
    obtain ⟨n124, e124, h⟩ := bd h
    have hk := Gr.trans hk (gr_O e124)
    obtain ⟨x129, e129, h⟩ := bd h
    obtain ⟨x133, e133, h⟩ := bd h
    obtain ⟨x136, e136, h⟩ := bd h
    have hk := Gr.after (Gr.of (t_X8_init e136)) hk
    obtain ⟨μ139, e139, h⟩ := bd h
    have hk := Gr.after (Gr.of (kq_pfP e139)) hk
    obtain ⟨n143, e143, h⟩ := bd h
    have hk := Gr.trans hk (gr_O e143)
    obtain ⟨x148, e148, h⟩ := bd h
    obtain ⟨x151, e151, h⟩ := bd h
    have hk := Gr.after (t_X4_init e151) hk
    obtain ⟨μ154, e154, h⟩ := bd h
    have hk := Gr.after (Gr.of (kq_pfP e154)) hk
    obtain ⟨n158, e158, h⟩ := bd h
    have hk := Gr.trans hk (gr_O e158)
    obtain ⟨x163, e163, h⟩ := bd h
    obtain ⟨x167, e167, h⟩ := bd h
    obtain ⟨x171, e171, h⟩ := bd h
    obtain ⟨x174, e174, h⟩ := bd h
    have hk := Gr.after (t_X1_init e174) hk
    obtain ⟨μ177, e177, h⟩ := bd h
    have hk := Gr.after (Gr.of (kq_pfP e177)) hk
    obtain ⟨b182, w182, h⟩ := bd h
    have hk := Gr.after (t_X10_init_W182 w182) hk
    exact Gr.after (t_X10_init_J210 h) hk)
  refine r_newarray (t := 20) (by decide) rfl e63 ka_20 hC dX10_init_63 ?_
  obtain ⟨μ65, e65, h⟩ := Sat_bind h
  refine r_putP fk_X10_43 (Or.inr ⟨rfl, rfl, rfl, fl_X10_43⟩) rfl e65 dX10_init_65 ?_
  have hN := nz_tl (kq_pfP e65) hN
  refine r_aload_n dX10_init_68 0 rfl ?_
  refine r_bipush (v := 8) dX10_init_69 (by decide) ?_
  obtain ⟨n71, e71, h⟩ := Sat_bind h
  have hN := nz_A (by decide) e71 hN
  have hC := bud_of hN (by
    obtain ⟨x, h, hx⟩ := id h
    have hk : Gr (n71.2) (n71.2) := Gr.rfl
    refine bud_le (?_ : Gr _ ((fun (q : Mm) => q) x)) (hB x hx)
    obtain ⟨μ73, e73, h⟩ := bd h
    have hk := Gr.after (Gr.of (kq_pfP e73)) hk
    obtain ⟨n79, e79, h⟩ := bd h
    have hk := Gr.trans hk (gr_A (by decide) e79)
    obtain ⟨μ81, e81, h⟩ := bd h
    have hk := Gr.after (Gr.of (kq_pfP e81)) hk
    obtain ⟨n87, e87, h⟩ := bd h
    have hk := Gr.trans hk (gr_A (by decide) e87)
    obtain ⟨μ89, e89, h⟩ := bd h
    have hk := Gr.after (Gr.of (kq_pfP e89)) hk
    obtain ⟨n96, e96, h⟩ := bd h
    have hk := Gr.trans hk (gr_A (by decide) e96)
    obtain ⟨μ98, e98, h⟩ := bd h
    have hk := Gr.after (Gr.of (kq_pfP e98)) hk
    obtain ⟨n102, e102, h⟩ := bd h
    have hk := Gr.trans hk (gr_O e102)
    obtain ⟨x106, e106, h⟩ := bd h
    have hk := Gr.after (t_X7_init e106) hk
    obtain ⟨μ109, e109, h⟩ := bd h
    have hk := Gr.after (Gr.of (kq_pfP e109)) hk
    obtain ⟨n113, e113, h⟩ := bd h
    have hk := Gr.trans hk (gr_O e113)
    obtain ⟨x117, e117, h⟩ := bd h
    have hk := Gr.after (t_X7_init e117) hk
    obtain ⟨μ120, e120, h⟩ := bd h
    have hk := Gr.after (Gr.of (kq_pfP e120)) hk
    obtain ⟨n124, e124, h⟩ := bd h
    have hk := Gr.trans hk (gr_O e124)
    obtain ⟨x129, e129, h⟩ := bd h
    obtain ⟨x133, e133, h⟩ := bd h
    obtain ⟨x136, e136, h⟩ := bd h
    have hk := Gr.after (Gr.of (t_X8_init e136)) hk
    obtain ⟨μ139, e139, h⟩ := bd h
    have hk := Gr.after (Gr.of (kq_pfP e139)) hk
    obtain ⟨n143, e143, h⟩ := bd h
    have hk := Gr.trans hk (gr_O e143)
    obtain ⟨x148, e148, h⟩ := bd h
    obtain ⟨x151, e151, h⟩ := bd h
    have hk := Gr.after (t_X4_init e151) hk
    obtain ⟨μ154, e154, h⟩ := bd h
    have hk := Gr.after (Gr.of (kq_pfP e154)) hk
    obtain ⟨n158, e158, h⟩ := bd h
    have hk := Gr.trans hk (gr_O e158)
    obtain ⟨x163, e163, h⟩ := bd h
    obtain ⟨x167, e167, h⟩ := bd h
    obtain ⟨x171, e171, h⟩ := bd h
    obtain ⟨x174, e174, h⟩ := bd h
    have hk := Gr.after (t_X1_init e174) hk
    obtain ⟨μ177, e177, h⟩ := bd h
    have hk := Gr.after (Gr.of (kq_pfP e177)) hk
    obtain ⟨b182, w182, h⟩ := bd h
    have hk := Gr.after (t_X10_init_W182 w182) hk
    exact Gr.after (t_X10_init_J210 h) hk)
  refine r_newarray (t := 20) (by decide) rfl e71 ka_20 hC dX10_init_71 ?_
  obtain ⟨μ73, e73, h⟩ := Sat_bind h
  refine r_putP fk_X10_47 (Or.inr ⟨rfl, rfl, rfl, fl_X10_47⟩) rfl e73 dX10_init_73 ?_
  have hN := nz_tl (kq_pfP e73) hN
  refine r_aload_n dX10_init_76 0 rfl ?_
  refine r_bipush (v := 8) dX10_init_77 (by decide) ?_
  obtain ⟨n79, e79, h⟩ := Sat_bind h
  have hN := nz_A (by decide) e79 hN
  have hC := bud_of hN (by
    obtain ⟨x, h, hx⟩ := id h
    have hk : Gr (n79.2) (n79.2) := Gr.rfl
    refine bud_le (?_ : Gr _ ((fun (q : Mm) => q) x)) (hB x hx)
    obtain ⟨μ81, e81, h⟩ := bd h
    have hk := Gr.after (Gr.of (kq_pfP e81)) hk
    obtain ⟨n87, e87, h⟩ := bd h
    have hk := Gr.trans hk (gr_A (by decide) e87)
    obtain ⟨μ89, e89, h⟩ := bd h
    have hk := Gr.after (Gr.of (kq_pfP e89)) hk
    obtain ⟨n96, e96, h⟩ := bd h
    have hk := Gr.trans hk (gr_A (by decide) e96)
    obtain ⟨μ98, e98, h⟩ := bd h
    have hk := Gr.after (Gr.of (kq_pfP e98)) hk
    obtain ⟨n102, e102, h⟩ := bd h
    have hk := Gr.trans hk (gr_O e102)
    obtain ⟨x106, e106, h⟩ := bd h
    have hk := Gr.after (t_X7_init e106) hk
    obtain ⟨μ109, e109, h⟩ := bd h
    have hk := Gr.after (Gr.of (kq_pfP e109)) hk
    obtain ⟨n113, e113, h⟩ := bd h
    have hk := Gr.trans hk (gr_O e113)
    obtain ⟨x117, e117, h⟩ := bd h
    have hk := Gr.after (t_X7_init e117) hk
    obtain ⟨μ120, e120, h⟩ := bd h
    have hk := Gr.after (Gr.of (kq_pfP e120)) hk
    obtain ⟨n124, e124, h⟩ := bd h
    have hk := Gr.trans hk (gr_O e124)
    obtain ⟨x129, e129, h⟩ := bd h
    obtain ⟨x133, e133, h⟩ := bd h
    obtain ⟨x136, e136, h⟩ := bd h
    have hk := Gr.after (Gr.of (t_X8_init e136)) hk
    obtain ⟨μ139, e139, h⟩ := bd h
    have hk := Gr.after (Gr.of (kq_pfP e139)) hk
    obtain ⟨n143, e143, h⟩ := bd h
    have hk := Gr.trans hk (gr_O e143)
    obtain ⟨x148, e148, h⟩ := bd h
    obtain ⟨x151, e151, h⟩ := bd h
    have hk := Gr.after (t_X4_init e151) hk
    obtain ⟨μ154, e154, h⟩ := bd h
    have hk := Gr.after (Gr.of (kq_pfP e154)) hk
    obtain ⟨n158, e158, h⟩ := bd h
    have hk := Gr.trans hk (gr_O e158)
    obtain ⟨x163, e163, h⟩ := bd h
    obtain ⟨x167, e167, h⟩ := bd h
    obtain ⟨x171, e171, h⟩ := bd h
    obtain ⟨x174, e174, h⟩ := bd h
    have hk := Gr.after (t_X1_init e174) hk
    obtain ⟨μ177, e177, h⟩ := bd h
    have hk := Gr.after (Gr.of (kq_pfP e177)) hk
    obtain ⟨b182, w182, h⟩ := bd h
    have hk := Gr.after (t_X10_init_W182 w182) hk
    exact Gr.after (t_X10_init_J210 h) hk)
  refine r_newarray (t := 20) (by decide) rfl e79 ka_20 hC dX10_init_79 ?_
  obtain ⟨μ81, e81, h⟩ := Sat_bind h
  refine r_putP fk_X10_50 (Or.inr ⟨rfl, rfl, rfl, fl_X10_50⟩) rfl e81 dX10_init_81 ?_
  have hN := nz_tl (kq_pfP e81) hN
  refine r_aload_n dX10_init_84 0 rfl ?_
  refine r_bipush (v := 21) dX10_init_85 (by decide) ?_
  obtain ⟨n87, e87, h⟩ := Sat_bind h
  have hN := nz_A (by decide) e87 hN
  have hC := bud_of hN (by
    obtain ⟨x, h, hx⟩ := id h
    have hk : Gr (n87.2) (n87.2) := Gr.rfl
    refine bud_le (?_ : Gr _ ((fun (q : Mm) => q) x)) (hB x hx)
    obtain ⟨μ89, e89, h⟩ := bd h
    have hk := Gr.after (Gr.of (kq_pfP e89)) hk
    obtain ⟨n96, e96, h⟩ := bd h
    have hk := Gr.trans hk (gr_A (by decide) e96)
    obtain ⟨μ98, e98, h⟩ := bd h
    have hk := Gr.after (Gr.of (kq_pfP e98)) hk
    obtain ⟨n102, e102, h⟩ := bd h
    have hk := Gr.trans hk (gr_O e102)
    obtain ⟨x106, e106, h⟩ := bd h
    have hk := Gr.after (t_X7_init e106) hk
    obtain ⟨μ109, e109, h⟩ := bd h
    have hk := Gr.after (Gr.of (kq_pfP e109)) hk
    obtain ⟨n113, e113, h⟩ := bd h
    have hk := Gr.trans hk (gr_O e113)
    obtain ⟨x117, e117, h⟩ := bd h
    have hk := Gr.after (t_X7_init e117) hk
    obtain ⟨μ120, e120, h⟩ := bd h
    have hk := Gr.after (Gr.of (kq_pfP e120)) hk
    obtain ⟨n124, e124, h⟩ := bd h
    have hk := Gr.trans hk (gr_O e124)
    obtain ⟨x129, e129, h⟩ := bd h
    obtain ⟨x133, e133, h⟩ := bd h
    obtain ⟨x136, e136, h⟩ := bd h
    have hk := Gr.after (Gr.of (t_X8_init e136)) hk
    obtain ⟨μ139, e139, h⟩ := bd h
    have hk := Gr.after (Gr.of (kq_pfP e139)) hk
    obtain ⟨n143, e143, h⟩ := bd h
    have hk := Gr.trans hk (gr_O e143)
    obtain ⟨x148, e148, h⟩ := bd h
    obtain ⟨x151, e151, h⟩ := bd h
    have hk := Gr.after (t_X4_init e151) hk
    obtain ⟨μ154, e154, h⟩ := bd h
    have hk := Gr.after (Gr.of (kq_pfP e154)) hk
    obtain ⟨n158, e158, h⟩ := bd h
    have hk := Gr.trans hk (gr_O e158)
    obtain ⟨x163, e163, h⟩ := bd h
    obtain ⟨x167, e167, h⟩ := bd h
    obtain ⟨x171, e171, h⟩ := bd h
    obtain ⟨x174, e174, h⟩ := bd h
    have hk := Gr.after (t_X1_init e174) hk
    obtain ⟨μ177, e177, h⟩ := bd h
    have hk := Gr.after (Gr.of (kq_pfP e177)) hk
    obtain ⟨b182, w182, h⟩ := bd h
    have hk := Gr.after (t_X10_init_W182 w182) hk
    exact Gr.after (t_X10_init_J210 h) hk)
  refine r_newarray (t := 20) (by decide) rfl e87 ka_20 hC dX10_init_87 ?_
  obtain ⟨μ89, e89, h⟩ := Sat_bind h
  refine r_putP fk_X10_53 (Or.inr ⟨rfl, rfl, rfl, fl_X10_53⟩) rfl e89 dX10_init_89 ?_
  have hN := nz_tl (kq_pfP e89) hN
  refine r_aload_n dX10_init_92 0 rfl ?_
  refine r_sipush (v := 231) dX10_init_93 (by decide) ?_
  obtain ⟨n96, e96, h⟩ := Sat_bind h
  have hN := nz_A (by decide) e96 hN
  have hC := bud_of hN (by
    obtain ⟨x, h, hx⟩ := id h
    have hk : Gr (n96.2) (n96.2) := Gr.rfl
    refine bud_le (?_ : Gr _ ((fun (q : Mm) => q) x)) (hB x hx)
    obtain ⟨μ98, e98, h⟩ := bd h
    have hk := Gr.after (Gr.of (kq_pfP e98)) hk
    obtain ⟨n102, e102, h⟩ := bd h
    have hk := Gr.trans hk (gr_O e102)
    obtain ⟨x106, e106, h⟩ := bd h
    have hk := Gr.after (t_X7_init e106) hk
    obtain ⟨μ109, e109, h⟩ := bd h
    have hk := Gr.after (Gr.of (kq_pfP e109)) hk
    obtain ⟨n113, e113, h⟩ := bd h
    have hk := Gr.trans hk (gr_O e113)
    obtain ⟨x117, e117, h⟩ := bd h
    have hk := Gr.after (t_X7_init e117) hk
    obtain ⟨μ120, e120, h⟩ := bd h
    have hk := Gr.after (Gr.of (kq_pfP e120)) hk
    obtain ⟨n124, e124, h⟩ := bd h
    have hk := Gr.trans hk (gr_O e124)
    obtain ⟨x129, e129, h⟩ := bd h
    obtain ⟨x133, e133, h⟩ := bd h
    obtain ⟨x136, e136, h⟩ := bd h
    have hk := Gr.after (Gr.of (t_X8_init e136)) hk
    obtain ⟨μ139, e139, h⟩ := bd h
    have hk := Gr.after (Gr.of (kq_pfP e139)) hk
    obtain ⟨n143, e143, h⟩ := bd h
    have hk := Gr.trans hk (gr_O e143)
    obtain ⟨x148, e148, h⟩ := bd h
    obtain ⟨x151, e151, h⟩ := bd h
    have hk := Gr.after (t_X4_init e151) hk
    obtain ⟨μ154, e154, h⟩ := bd h
    have hk := Gr.after (Gr.of (kq_pfP e154)) hk
    obtain ⟨n158, e158, h⟩ := bd h
    have hk := Gr.trans hk (gr_O e158)
    obtain ⟨x163, e163, h⟩ := bd h
    obtain ⟨x167, e167, h⟩ := bd h
    obtain ⟨x171, e171, h⟩ := bd h
    obtain ⟨x174, e174, h⟩ := bd h
    have hk := Gr.after (t_X1_init e174) hk
    obtain ⟨μ177, e177, h⟩ := bd h
    have hk := Gr.after (Gr.of (kq_pfP e177)) hk
    obtain ⟨b182, w182, h⟩ := bd h
    have hk := Gr.after (t_X10_init_W182 w182) hk
    exact Gr.after (t_X10_init_J210 h) hk)
  refine r_newarray (t := 21) (by decide) rfl e96 ka_21 hC dX10_init_96 ?_
  obtain ⟨μ98, e98, h⟩ := Sat_bind h
  refine r_putP fk_X10_56 (Or.inr ⟨rfl, rfl, rfl, fl_X10_56⟩) rfl e98 dX10_init_98 ?_
  have hN := nz_tl (kq_pfP e98) hN
  refine r_aload_n dX10_init_101 0 rfl ?_
  obtain ⟨n102, e102, h⟩ := Sat_bind h
  have hN := nz_O e102 hN (by decide)
  have hC := bud_of hN (by
    obtain ⟨x, h, hx⟩ := id h
    have hk : Gr (n102.2) (n102.2) := Gr.rfl
    refine bud_le (?_ : Gr _ ((fun (q : Mm) => q) x)) (hB x hx)
    obtain ⟨x106, e106, h⟩ := bd h
    have hk := Gr.after (t_X7_init e106) hk
    obtain ⟨μ109, e109, h⟩ := bd h
    have hk := Gr.after (Gr.of (kq_pfP e109)) hk
    obtain ⟨n113, e113, h⟩ := bd h
    have hk := Gr.trans hk (gr_O e113)
    obtain ⟨x117, e117, h⟩ := bd h
    have hk := Gr.after (t_X7_init e117) hk
    obtain ⟨μ120, e120, h⟩ := bd h
    have hk := Gr.after (Gr.of (kq_pfP e120)) hk
    obtain ⟨n124, e124, h⟩ := bd h
    have hk := Gr.trans hk (gr_O e124)
    obtain ⟨x129, e129, h⟩ := bd h
    obtain ⟨x133, e133, h⟩ := bd h
    obtain ⟨x136, e136, h⟩ := bd h
    have hk := Gr.after (Gr.of (t_X8_init e136)) hk
    obtain ⟨μ139, e139, h⟩ := bd h
    have hk := Gr.after (Gr.of (kq_pfP e139)) hk
    obtain ⟨n143, e143, h⟩ := bd h
    have hk := Gr.trans hk (gr_O e143)
    obtain ⟨x148, e148, h⟩ := bd h
    obtain ⟨x151, e151, h⟩ := bd h
    have hk := Gr.after (t_X4_init e151) hk
    obtain ⟨μ154, e154, h⟩ := bd h
    have hk := Gr.after (Gr.of (kq_pfP e154)) hk
    obtain ⟨n158, e158, h⟩ := bd h
    have hk := Gr.trans hk (gr_O e158)
    obtain ⟨x163, e163, h⟩ := bd h
    obtain ⟨x167, e167, h⟩ := bd h
    obtain ⟨x171, e171, h⟩ := bd h
    obtain ⟨x174, e174, h⟩ := bd h
    have hk := Gr.after (t_X1_init e174) hk
    obtain ⟨μ177, e177, h⟩ := bd h
    have hk := Gr.after (Gr.of (kq_pfP e177)) hk
    obtain ⟨b182, w182, h⟩ := bd h
    have hk := Gr.after (t_X10_init_W182 w182) hk
    exact Gr.after (t_X10_init_J210 h) hk)
  refine r_newO e102 ⟨by decide, by decide⟩ kl_X10_60 (by decide) hC dX10_init_102 ?_
  refine r_dup dX10_init_105 rfl ?_
  obtain ⟨x106, e106, h⟩ := Sat_bind h
  have hN := nz_call (t_X7_init e106) hN
  have hC := bud_of hN (by
    obtain ⟨x, h, hx⟩ := id h
    have hk : Gr (x106) (x106) := Gr.rfl
    refine bud_le (?_ : Gr _ ((fun (q : Mm) => q) x)) (hB x hx)
    obtain ⟨μ109, e109, h⟩ := bd h
    have hk := Gr.after (Gr.of (kq_pfP e109)) hk
    obtain ⟨n113, e113, h⟩ := bd h
    have hk := Gr.trans hk (gr_O e113)
    obtain ⟨x117, e117, h⟩ := bd h
    have hk := Gr.after (t_X7_init e117) hk
    obtain ⟨μ120, e120, h⟩ := bd h
    have hk := Gr.after (Gr.of (kq_pfP e120)) hk
    obtain ⟨n124, e124, h⟩ := bd h
    have hk := Gr.trans hk (gr_O e124)
    obtain ⟨x129, e129, h⟩ := bd h
    obtain ⟨x133, e133, h⟩ := bd h
    obtain ⟨x136, e136, h⟩ := bd h
    have hk := Gr.after (Gr.of (t_X8_init e136)) hk
    obtain ⟨μ139, e139, h⟩ := bd h
    have hk := Gr.after (Gr.of (kq_pfP e139)) hk
    obtain ⟨n143, e143, h⟩ := bd h
    have hk := Gr.trans hk (gr_O e143)
    obtain ⟨x148, e148, h⟩ := bd h
    obtain ⟨x151, e151, h⟩ := bd h
    have hk := Gr.after (t_X4_init e151) hk
    obtain ⟨μ154, e154, h⟩ := bd h
    have hk := Gr.after (Gr.of (kq_pfP e154)) hk
    obtain ⟨n158, e158, h⟩ := bd h
    have hk := Gr.trans hk (gr_O e158)
    obtain ⟨x163, e163, h⟩ := bd h
    obtain ⟨x167, e167, h⟩ := bd h
    obtain ⟨x171, e171, h⟩ := bd h
    obtain ⟨x174, e174, h⟩ := bd h
    have hk := Gr.after (t_X1_init e174) hk
    obtain ⟨μ177, e177, h⟩ := bd h
    have hk := Gr.after (Gr.of (kq_pfP e177)) hk
    obtain ⟨b182, w182, h⟩ := bd h
    have hk := Gr.after (t_X10_init_W182 w182) hk
    exact Gr.after (t_X10_init_J210 h) hk)
  refine r_bI [] [.ref n102.1, .ref a0] (m_X7_init n102.1 n102.2 e106 (mm_N x106 - mm_N n102.2) (mm_Z x106 - mm_Z n102.2) gr_N gr_Z) ck_X7_init lk_X10_62 in_X7_init rfl rfl rfl (Nat.le_of_ble_eq_true rfl) ⟨Nat.le_of_ble_eq_true rfl, Nat.le_of_ble_eq_true rfl⟩ hC dX10_init_106 ?_
  obtain ⟨μ109, e109, h⟩ := Sat_bind h
  refine r_putP fk_X10_63 (Or.inl rfl) rfl e109 dX10_init_109 ?_
  have hN := nz_tl (kq_pfP e109) hN
  refine r_aload_n dX10_init_112 0 rfl ?_
  obtain ⟨n113, e113, h⟩ := Sat_bind h
  have hN := nz_O e113 hN (by decide)
  have hC := bud_of hN (by
    obtain ⟨x, h, hx⟩ := id h
    have hk : Gr (n113.2) (n113.2) := Gr.rfl
    refine bud_le (?_ : Gr _ ((fun (q : Mm) => q) x)) (hB x hx)
    obtain ⟨x117, e117, h⟩ := bd h
    have hk := Gr.after (t_X7_init e117) hk
    obtain ⟨μ120, e120, h⟩ := bd h
    have hk := Gr.after (Gr.of (kq_pfP e120)) hk
    obtain ⟨n124, e124, h⟩ := bd h
    have hk := Gr.trans hk (gr_O e124)
    obtain ⟨x129, e129, h⟩ := bd h
    obtain ⟨x133, e133, h⟩ := bd h
    obtain ⟨x136, e136, h⟩ := bd h
    have hk := Gr.after (Gr.of (t_X8_init e136)) hk
    obtain ⟨μ139, e139, h⟩ := bd h
    have hk := Gr.after (Gr.of (kq_pfP e139)) hk
    obtain ⟨n143, e143, h⟩ := bd h
    have hk := Gr.trans hk (gr_O e143)
    obtain ⟨x148, e148, h⟩ := bd h
    obtain ⟨x151, e151, h⟩ := bd h
    have hk := Gr.after (t_X4_init e151) hk
    obtain ⟨μ154, e154, h⟩ := bd h
    have hk := Gr.after (Gr.of (kq_pfP e154)) hk
    obtain ⟨n158, e158, h⟩ := bd h
    have hk := Gr.trans hk (gr_O e158)
    obtain ⟨x163, e163, h⟩ := bd h
    obtain ⟨x167, e167, h⟩ := bd h
    obtain ⟨x171, e171, h⟩ := bd h
    obtain ⟨x174, e174, h⟩ := bd h
    have hk := Gr.after (t_X1_init e174) hk
    obtain ⟨μ177, e177, h⟩ := bd h
    have hk := Gr.after (Gr.of (kq_pfP e177)) hk
    obtain ⟨b182, w182, h⟩ := bd h
    have hk := Gr.after (t_X10_init_W182 w182) hk
    exact Gr.after (t_X10_init_J210 h) hk)
  refine r_newO e113 ⟨by decide, by decide⟩ kl_X10_60 (by decide) hC dX10_init_113 ?_
  refine r_dup dX10_init_116 rfl ?_
  obtain ⟨x117, e117, h⟩ := Sat_bind h
  have hN := nz_call (t_X7_init e117) hN
  have hC := bud_of hN (by
    obtain ⟨x, h, hx⟩ := id h
    have hk : Gr (x117) (x117) := Gr.rfl
    refine bud_le (?_ : Gr _ ((fun (q : Mm) => q) x)) (hB x hx)
    obtain ⟨μ120, e120, h⟩ := bd h
    have hk := Gr.after (Gr.of (kq_pfP e120)) hk
    obtain ⟨n124, e124, h⟩ := bd h
    have hk := Gr.trans hk (gr_O e124)
    obtain ⟨x129, e129, h⟩ := bd h
    obtain ⟨x133, e133, h⟩ := bd h
    obtain ⟨x136, e136, h⟩ := bd h
    have hk := Gr.after (Gr.of (t_X8_init e136)) hk
    obtain ⟨μ139, e139, h⟩ := bd h
    have hk := Gr.after (Gr.of (kq_pfP e139)) hk
    obtain ⟨n143, e143, h⟩ := bd h
    have hk := Gr.trans hk (gr_O e143)
    obtain ⟨x148, e148, h⟩ := bd h
    obtain ⟨x151, e151, h⟩ := bd h
    have hk := Gr.after (t_X4_init e151) hk
    obtain ⟨μ154, e154, h⟩ := bd h
    have hk := Gr.after (Gr.of (kq_pfP e154)) hk
    obtain ⟨n158, e158, h⟩ := bd h
    have hk := Gr.trans hk (gr_O e158)
    obtain ⟨x163, e163, h⟩ := bd h
    obtain ⟨x167, e167, h⟩ := bd h
    obtain ⟨x171, e171, h⟩ := bd h
    obtain ⟨x174, e174, h⟩ := bd h
    have hk := Gr.after (t_X1_init e174) hk
    obtain ⟨μ177, e177, h⟩ := bd h
    have hk := Gr.after (Gr.of (kq_pfP e177)) hk
    obtain ⟨b182, w182, h⟩ := bd h
    have hk := Gr.after (t_X10_init_W182 w182) hk
    exact Gr.after (t_X10_init_J210 h) hk)
  refine r_bI [] [.ref n113.1, .ref a0] (m_X7_init n113.1 n113.2 e117 (mm_N x117 - mm_N n113.2) (mm_Z x117 - mm_Z n113.2) gr_N gr_Z) ck_X7_init lk_X10_62 in_X7_init rfl rfl rfl (Nat.le_of_ble_eq_true rfl) ⟨Nat.le_of_ble_eq_true rfl, Nat.le_of_ble_eq_true rfl⟩ hC dX10_init_117 ?_
  obtain ⟨μ120, e120, h⟩ := Sat_bind h
  refine r_putP fk_X10_67 (Or.inl rfl) rfl e120 dX10_init_120 ?_
  have hN := nz_tl (kq_pfP e120) hN
  refine r_aload_n dX10_init_123 0 rfl ?_
  obtain ⟨n124, e124, h⟩ := Sat_bind h
  have hN := nz_O e124 hN (by decide)
  have hC := bud_of hN (by
    obtain ⟨x, h, hx⟩ := id h
    have hk : Gr (n124.2) (n124.2) := Gr.rfl
    refine bud_le (?_ : Gr _ ((fun (q : Mm) => q) x)) (hB x hx)
    obtain ⟨x129, e129, h⟩ := bd h
    obtain ⟨x133, e133, h⟩ := bd h
    obtain ⟨x136, e136, h⟩ := bd h
    have hk := Gr.after (Gr.of (t_X8_init e136)) hk
    obtain ⟨μ139, e139, h⟩ := bd h
    have hk := Gr.after (Gr.of (kq_pfP e139)) hk
    obtain ⟨n143, e143, h⟩ := bd h
    have hk := Gr.trans hk (gr_O e143)
    obtain ⟨x148, e148, h⟩ := bd h
    obtain ⟨x151, e151, h⟩ := bd h
    have hk := Gr.after (t_X4_init e151) hk
    obtain ⟨μ154, e154, h⟩ := bd h
    have hk := Gr.after (Gr.of (kq_pfP e154)) hk
    obtain ⟨n158, e158, h⟩ := bd h
    have hk := Gr.trans hk (gr_O e158)
    obtain ⟨x163, e163, h⟩ := bd h
    obtain ⟨x167, e167, h⟩ := bd h
    obtain ⟨x171, e171, h⟩ := bd h
    obtain ⟨x174, e174, h⟩ := bd h
    have hk := Gr.after (t_X1_init e174) hk
    obtain ⟨μ177, e177, h⟩ := bd h
    have hk := Gr.after (Gr.of (kq_pfP e177)) hk
    obtain ⟨b182, w182, h⟩ := bd h
    have hk := Gr.after (t_X10_init_W182 w182) hk
    exact Gr.after (t_X10_init_J210 h) hk)
  refine r_newO e124 ⟨by decide, by decide⟩ kl_X10_70 (by decide) hC dX10_init_124 ?_
  refine r_dup dX10_init_127 rfl ?_
  refine r_aload_n dX10_init_128 0 rfl ?_
  obtain ⟨x129, e129, h⟩ := Sat_bind h
  refine r_getP fk_X10_21 rfl e129 dX10_init_129 ?_
  refine r_aload_n dX10_init_132 0 rfl ?_
  obtain ⟨x133, e133, h⟩ := Sat_bind h
  refine r_getP fk_X10_67 rfl e133 dX10_init_133 ?_
  obtain ⟨x136, e136, h⟩ := Sat_bind h
  refine r_cI [.ref x129, .ref x133] [.ref n124.1, .ref a0] (m_X8_init n124.1 x129 x133 n124.2 e136) ck_X8_init lk_X10_72 in_X8_init rfl rfl rfl (Nat.le_of_ble_eq_true rfl) ⟨Nat.le_of_ble_eq_true rfl, Nat.le_of_ble_eq_true rfl⟩ hC dX10_init_136 ?_
  have hN := nz_tl (t_X8_init e136) hN
  obtain ⟨μ139, e139, h⟩ := Sat_bind h
  refine r_putP fk_X10_75 (Or.inr ⟨rfl, rfl, rfl, fl_X10_75⟩) rfl e139 dX10_init_139 ?_
  have hN := nz_tl (kq_pfP e139) hN
  refine r_aload_n dX10_init_142 0 rfl ?_
  obtain ⟨n143, e143, h⟩ := Sat_bind h
  have hN := nz_O e143 hN (by decide)
  have hC := bud_of hN (by
    obtain ⟨x, h, hx⟩ := id h
    have hk : Gr (n143.2) (n143.2) := Gr.rfl
    refine bud_le (?_ : Gr _ ((fun (q : Mm) => q) x)) (hB x hx)
    obtain ⟨x148, e148, h⟩ := bd h
    obtain ⟨x151, e151, h⟩ := bd h
    have hk := Gr.after (t_X4_init e151) hk
    obtain ⟨μ154, e154, h⟩ := bd h
    have hk := Gr.after (Gr.of (kq_pfP e154)) hk
    obtain ⟨n158, e158, h⟩ := bd h
    have hk := Gr.trans hk (gr_O e158)
    obtain ⟨x163, e163, h⟩ := bd h
    obtain ⟨x167, e167, h⟩ := bd h
    obtain ⟨x171, e171, h⟩ := bd h
    obtain ⟨x174, e174, h⟩ := bd h
    have hk := Gr.after (t_X1_init e174) hk
    obtain ⟨μ177, e177, h⟩ := bd h
    have hk := Gr.after (Gr.of (kq_pfP e177)) hk
    obtain ⟨b182, w182, h⟩ := bd h
    have hk := Gr.after (t_X10_init_W182 w182) hk
    exact Gr.after (t_X10_init_J210 h) hk)
  refine r_newO e143 ⟨by decide, by decide⟩ kl_X10_79 (by decide) hC dX10_init_143 ?_
  refine r_dup dX10_init_146 rfl ?_
  refine r_aload_n dX10_init_147 0 rfl ?_
  obtain ⟨x148, e148, h⟩ := Sat_bind h
  refine r_getP fk_X10_63 rfl e148 dX10_init_148 ?_
  obtain ⟨x151, e151, h⟩ := Sat_bind h
  have hN := nz_call (t_X4_init e151) hN
  have hC := bud_of hN (by
    obtain ⟨x, h, hx⟩ := id h
    have hk : Gr (x151) (x151) := Gr.rfl
    refine bud_le (?_ : Gr _ ((fun (q : Mm) => q) x)) (hB x hx)
    obtain ⟨μ154, e154, h⟩ := bd h
    have hk := Gr.after (Gr.of (kq_pfP e154)) hk
    obtain ⟨n158, e158, h⟩ := bd h
    have hk := Gr.trans hk (gr_O e158)
    obtain ⟨x163, e163, h⟩ := bd h
    obtain ⟨x167, e167, h⟩ := bd h
    obtain ⟨x171, e171, h⟩ := bd h
    obtain ⟨x174, e174, h⟩ := bd h
    have hk := Gr.after (t_X1_init e174) hk
    obtain ⟨μ177, e177, h⟩ := bd h
    have hk := Gr.after (Gr.of (kq_pfP e177)) hk
    obtain ⟨b182, w182, h⟩ := bd h
    have hk := Gr.after (t_X10_init_W182 w182) hk
    exact Gr.after (t_X10_init_J210 h) hk)
  refine r_bI [.ref x148] [.ref n143.1, .ref a0] (m_X4_init n143.1 x148 n143.2 e151 (mm_N x151 - mm_N n143.2) (mm_Z x151 - mm_Z n143.2) gr_N gr_Z) ck_X4_init lk_X10_81 in_X4_init rfl rfl rfl (Nat.le_of_ble_eq_true rfl) ⟨Nat.le_of_ble_eq_true rfl, Nat.le_of_ble_eq_true rfl⟩ hC dX10_init_151 ?_
  obtain ⟨μ154, e154, h⟩ := Sat_bind h
  refine r_putP fk_X10_84 (Or.inr ⟨rfl, rfl, rfl, fl_X10_84⟩) rfl e154 dX10_init_154 ?_
  have hN := nz_tl (kq_pfP e154) hN
  refine r_aload_n dX10_init_157 0 rfl ?_
  obtain ⟨n158, e158, h⟩ := Sat_bind h
  have hN := nz_O e158 hN (by decide)
  have hC := bud_of hN (by
    obtain ⟨x, h, hx⟩ := id h
    have hk : Gr (n158.2) (n158.2) := Gr.rfl
    refine bud_le (?_ : Gr _ ((fun (q : Mm) => q) x)) (hB x hx)
    obtain ⟨x163, e163, h⟩ := bd h
    obtain ⟨x167, e167, h⟩ := bd h
    obtain ⟨x171, e171, h⟩ := bd h
    obtain ⟨x174, e174, h⟩ := bd h
    have hk := Gr.after (t_X1_init e174) hk
    obtain ⟨μ177, e177, h⟩ := bd h
    have hk := Gr.after (Gr.of (kq_pfP e177)) hk
    obtain ⟨b182, w182, h⟩ := bd h
    have hk := Gr.after (t_X10_init_W182 w182) hk
    exact Gr.after (t_X10_init_J210 h) hk)
  refine r_newO e158 ⟨by decide, by decide⟩ kl_X10_88 (by decide) hC dX10_init_158 ?_
  refine r_dup dX10_init_161 rfl ?_
  refine r_aload_n dX10_init_162 0 rfl ?_
  obtain ⟨x163, e163, h⟩ := Sat_bind h
  refine r_getP fk_X10_63 rfl e163 dX10_init_163 ?_
  refine r_aload_n dX10_init_166 0 rfl ?_
  obtain ⟨x167, e167, h⟩ := Sat_bind h
  refine r_getP fk_X10_84 rfl e167 dX10_init_167 ?_
  refine r_aload_n dX10_init_170 0 rfl ?_
  obtain ⟨x171, e171, h⟩ := Sat_bind h
  refine r_getP fk_X10_28 rfl e171 dX10_init_171 ?_
  obtain ⟨x174, e174, h⟩ := Sat_bind h
  have hN := nz_call (t_X1_init e174) hN
  have hC := bud_of hN (by
    obtain ⟨x, h, hx⟩ := id h
    have hk : Gr (x174) (x174) := Gr.rfl
    refine bud_le (?_ : Gr _ ((fun (q : Mm) => q) x)) (hB x hx)
    obtain ⟨μ177, e177, h⟩ := bd h
    have hk := Gr.after (Gr.of (kq_pfP e177)) hk
    obtain ⟨b182, w182, h⟩ := bd h
    have hk := Gr.after (t_X10_init_W182 w182) hk
    exact Gr.after (t_X10_init_J210 h) hk)
  refine r_bI [.ref x163, .ref x167, .ref x171] [.ref n158.1, .ref a0] (m_X1_init n158.1 x163 x167 x171 n158.2 e174 (mm_N x174 - mm_N n158.2) (mm_Z x174 - mm_Z n158.2) gr_N gr_Z) ck_X1_init lk_X10_90 in_X1_init rfl rfl rfl (Nat.le_of_ble_eq_true rfl) ⟨Nat.le_of_ble_eq_true rfl, Nat.le_of_ble_eq_true rfl⟩ hC dX10_init_174 ?_
  obtain ⟨μ177, e177, h⟩ := Sat_bind h
  refine r_putP fk_X10_93 (Or.inr ⟨rfl, rfl, rfl, fl_X10_93⟩) rfl e177 dX10_init_177 ?_
  have hN := nz_tl (kq_pfP e177) hN
  refine r_iconst (v := 0) dX10_init_180 (by decide) ?_
  refine r_istore_n (lv' := [(1, .int (0 : Int32)), (0, .ref a0)]) dX10_init_181 rfl (by decide) rfl ?_
  refine r_sub (lv' := [(0, .ref a0), (1, .int (0 : Int32))]) [1, 0] rfl ?_
  refine whl_B (s0 := (((0 : Int32), μ177) : Int32 × Mm)) (g := (fun (q : Int32 × Mm) => q.2)) (gb := (fun (q : Mm) => q)) (Nr := mm_N μ + mc) (Zr := mm_Z μ + ms) (RR := fun (s182 : Int32 × Mm) => ∀ (c182 z182 : Nat), Nz μ s182.2 c182 z182 → c182 ≤ mc ∧ z182 ≤ ms → Rn_X10_init G (fun v μ' => v = none ∧ μ' = r) mc ms c182 z182 182 [(0, .ref a0), (1, .int s182.1)] [] s182.2) (fun s x hx => t_X10_init_L182 hx) ?_ ?_ (Sat_bindK h) (0 + 1 + (mm_N x9 - mm_N n5.2) + 1 + 1 + (mm_N x35 - mm_N n31.2) + 1 + (mm_N x46 - mm_N n42.2) + 1 + 1 + 1 + 1 + 1 + 1 + 1 + (mm_N x106 - mm_N n102.2) + 1 + (mm_N x117 - mm_N n113.2) + 1 + 1 + (mm_N x151 - mm_N n143.2) + 1 + (mm_N x174 - mm_N n158.2)) (0 + cfn 6 + (mm_Z x9 - mm_Z n5.2) + cfn 7 + cfn 1 + (mm_Z x35 - mm_Z n31.2) + cfn 4 + (mm_Z x46 - mm_Z n42.2) + ((3 : Int32)).toNatClampNeg + ((8 : Int32)).toNatClampNeg + ((8 : Int32)).toNatClampNeg + ((8 : Int32)).toNatClampNeg + ((21 : Int32)).toNatClampNeg + ((231 : Int32)).toNatClampNeg + cfn 8 + (mm_Z x106 - mm_Z n102.2) + cfn 8 + (mm_Z x117 - mm_Z n113.2) + cfn 9 + cfn 5 + (mm_Z x151 - mm_Z n143.2) + cfn 2 + (mm_Z x174 - mm_Z n158.2)) hN hC
  · intro b182 hb
    obtain ⟨x, h, hx⟩ := hb
    have hk : Gr ((fun (q : Mm) => q) b182) ((fun (q : Mm) => q) b182) := Gr.rfl
    refine bud_le (?_ : Gr _ ((fun (q : Mm) => q) x)) (hB x hx)
    exact Gr.after (t_X10_init_J210 h) hk
  · intro s182 K182 hI182 hX182 hB182 h c182 z182 hN hC
    refine r_iload_n dX10_init_182 1 rfl ?_
    refine r_aload_n dX10_init_183 0 rfl ?_
    obtain ⟨x184, e184, h⟩ := Sat_bind h
    refine r_getP fk_X10_39 rfl e184 dX10_init_184 ?_
    obtain ⟨x187, e187, h⟩ := Sat_bind h
    refine r_len e187 dX10_init_187 ?_
    refine r_icmp_ge 210 dX10_init_188 (by decide) (fun c188 => ?_) (fun c188 => ?_)
    · have h := Sat_pos c188 h
      have h := hX182 _ (Sat_some h)
      exact r_sub [0] rfl (J210 a0 s182.2 c182 z182 hN hC h)
    · have h := Sat_neg c188 h
      refine r_aload_n dX10_init_191 0 rfl ?_
      obtain ⟨x192, e192, h⟩ := Sat_bind h
      refine r_getP fk_X10_39 rfl e192 dX10_init_192 ?_
      refine r_iload_n dX10_init_195 1 rfl ?_
      obtain ⟨n196, e196, h⟩ := Sat_bind h
      have hN := nz_O e196 hN (by decide)
      have hC := bud_of hN (by
        obtain ⟨x, h, hx⟩ := id h
        have hk : Gr (n196.2) (n196.2) := Gr.rfl
        refine bud_le (?_ : Gr _ ((sm (fun (q : Int32 × Mm) => q.2) (fun (q : Mm) => q)) x)) (hB182 x hx)
        obtain ⟨x200, e200, h⟩ := bd h
        have hk := Gr.after (t_X3_init e200) hk
        obtain ⟨μ203, e203, h⟩ := bd h
        have hk := Gr.after (Gr.of (kq_paP e203)) hk
        obtain ⟨v204, e204, h⟩ := bd h
        have h := Option.some.inj h
        subst h
        exact hk)
      refine r_newO e196 ⟨by decide, by decide⟩ kl_X10_32 (by decide) hC dX10_init_196 ?_
      refine r_dup dX10_init_199 rfl ?_
      obtain ⟨x200, e200, h⟩ := Sat_bind h
      have hN := nz_call (t_X3_init e200) hN
      have hC := bud_of hN (by
        obtain ⟨x, h, hx⟩ := id h
        have hk : Gr (x200) (x200) := Gr.rfl
        refine bud_le (?_ : Gr _ ((sm (fun (q : Int32 × Mm) => q.2) (fun (q : Mm) => q)) x)) (hB182 x hx)
        obtain ⟨μ203, e203, h⟩ := bd h
        have hk := Gr.after (Gr.of (kq_paP e203)) hk
        obtain ⟨v204, e204, h⟩ := bd h
        have h := Option.some.inj h
        subst h
        exact hk)
      refine r_bI [] [.ref n196.1, .int s182.1, .ref x192] (m_X3_init n196.1 n196.2 e200 (mm_N x200 - mm_N n196.2) (mm_Z x200 - mm_Z n196.2) gr_N gr_Z) ck_X3_init lk_X10_34 in_X3_init rfl rfl rfl (Nat.le_of_ble_eq_true rfl) ⟨Nat.le_of_ble_eq_true rfl, Nat.le_of_ble_eq_true rfl⟩ hC dX10_init_200 ?_
      obtain ⟨μ203, e203, h⟩ := Sat_bind h
      refine r_aastore24 e203 dX10_init_203 ?_
      have hN := nz_tl (kq_paP e203) hN
      obtain ⟨v204, e204, h⟩ := Sat_bind h
      refine r_iinc (j := 1) (v := v204) (lv' := [(1, .int v204), (0, .ref a0)]) dX10_init_204 rfl (iinc_v e204 (by decide)) (by decide) rfl ?_
      refine r_goto 182 dX10_init_207 (by decide) ?_
      exact r_sub [1, 0] rfl (hI182 _ (Sat_some h) (c182 + 1 + (mm_N x200 - mm_N n196.2)) (z182 + cfn 4 + (mm_Z x200 - mm_Z n196.2)) hN hC)
theorem dX1_perhapsKnowing_0 : decode cX1_perhapsKnowing 0 = .ok (.aload_n 0, 1) := by decide +kernel
theorem dX1_perhapsKnowing_1 : decode cX1_perhapsKnowing 1 = .ok (.iconst 1, 1) := by decide +kernel
theorem dX1_perhapsKnowing_2 : decode cX1_perhapsKnowing 2 = .ok (.iload_n 1, 1) := by decide +kernel
theorem dX1_perhapsKnowing_3 : decode cX1_perhapsKnowing 3 = .ok (.ishl, 1) := by decide +kernel
theorem dX1_perhapsKnowing_4 : decode cX1_perhapsKnowing 4 = .ok (.invokevirtual 119, 3) := by decide +kernel
theorem dX1_perhapsKnowing_7 : decode cX1_perhapsKnowing 7 = .ok (.iconst 0, 1) := by decide +kernel
theorem dX1_perhapsKnowing_8 : decode cX1_perhapsKnowing 8 = .ok (.istore_n 3, 1) := by decide +kernel
theorem dX1_perhapsKnowing_9 : decode cX1_perhapsKnowing 9 = .ok (.iconst 0, 1) := by decide +kernel
theorem dX1_perhapsKnowing_10 : decode cX1_perhapsKnowing 10 = .ok (.istore 4, 2) := by decide +kernel
theorem dX1_perhapsKnowing_12 : decode cX1_perhapsKnowing 12 = .ok (.iload 4, 2) := by decide +kernel
theorem dX1_perhapsKnowing_14 : decode cX1_perhapsKnowing 14 = .ok (.aload_n 0, 1) := by decide +kernel
theorem dX1_perhapsKnowing_15 : decode cX1_perhapsKnowing 15 = .ok (.getfield 122, 3) := by decide +kernel
theorem dX1_perhapsKnowing_18 : decode cX1_perhapsKnowing 18 = .ok (.if_icmp .ge 35, 3) := by decide +kernel
theorem dX1_perhapsKnowing_21 : decode cX1_perhapsKnowing 21 = .ok (.iload 4, 2) := by decide +kernel
theorem dX1_perhapsKnowing_23 : decode cX1_perhapsKnowing 23 = .ok (.aload_n 0, 1) := by decide +kernel
theorem dX1_perhapsKnowing_24 : decode cX1_perhapsKnowing 24 = .ok (.getfield 28, 3) := by decide +kernel
theorem dX1_perhapsKnowing_27 : decode cX1_perhapsKnowing 27 = .ok (.arraylength, 1) := by decide +kernel
theorem dX1_perhapsKnowing_28 : decode cX1_perhapsKnowing 28 = .ok (.if_icmp .ge 25, 3) := by decide +kernel
theorem dX1_perhapsKnowing_31 : decode cX1_perhapsKnowing 31 = .ok (.iload_n 3, 1) := by decide +kernel
theorem dX1_perhapsKnowing_32 : decode cX1_perhapsKnowing 32 = .ok (.aload_n 0, 1) := by decide +kernel
theorem dX1_perhapsKnowing_33 : decode cX1_perhapsKnowing 33 = .ok (.iload_n 1, 1) := by decide +kernel
theorem dX1_perhapsKnowing_34 : decode cX1_perhapsKnowing 34 = .ok (.aload_n 0, 1) := by decide +kernel
theorem dX1_perhapsKnowing_35 : decode cX1_perhapsKnowing 35 = .ok (.getfield 28, 3) := by decide +kernel
theorem dX1_perhapsKnowing_38 : decode cX1_perhapsKnowing 38 = .ok (.iload 4, 2) := by decide +kernel
theorem dX1_perhapsKnowing_40 : decode cX1_perhapsKnowing 40 = .ok (.iaload, 1) := by decide +kernel
theorem dX1_perhapsKnowing_41 : decode cX1_perhapsKnowing 41 = .ok (.iload_n 2, 1) := by decide +kernel
theorem dX1_perhapsKnowing_42 : decode cX1_perhapsKnowing 42 = .ok (.invokevirtual 152, 3) := by decide +kernel
theorem dX1_perhapsKnowing_45 : decode cX1_perhapsKnowing 45 = .ok (.ior, 1) := by decide +kernel
theorem dX1_perhapsKnowing_46 : decode cX1_perhapsKnowing 46 = .ok (.istore_n 3, 1) := by decide +kernel
theorem dX1_perhapsKnowing_47 : decode cX1_perhapsKnowing 47 = .ok (.iinc 4 1, 3) := by decide +kernel
theorem dX1_perhapsKnowing_50 : decode cX1_perhapsKnowing 50 = .ok (.goto (-38), 3) := by decide +kernel
theorem dX1_perhapsKnowing_53 : decode cX1_perhapsKnowing 53 = .ok (.iload_n 3, 1) := by decide +kernel
theorem dX1_perhapsKnowing_54 : decode cX1_perhapsKnowing 54 = .ok (.ireturn, 1) := by decide +kernel
noncomputable def f_X1_perhapsKnowing_L12 (a0 : Nat) (l1 : Int32) (l2 : Int32) (μ : Mm) (s12 : Int32 × Int32) : Option ((Int32 × Int32) ⊕ (Int32)) :=
  (gf_I 2 8 a0 μ).bind fun x15 => if x15 ≤ s12.2 then some (.inr s12.1) else (gf_P 2 7 a0 μ).bind fun x24 => (ga_len x24 μ).bind fun x27 => if x27 ≤ s12.2 then some (.inr s12.1) else (gf_P 2 7 a0 μ).bind fun x35 => (ga_I x35 s12.2 μ).bind fun x40 => (f_X1_knowingBehind a0 l1 x40 l2 μ).bind fun x42 => (some (s12.1 ||| x42)).bind fun v46 => (some (s12.2 + (1 : Int32))).bind fun v47 => some (.inl (v46, v47))
noncomputable def f_X1_perhapsKnowing (a0 : Nat) (l1 : Int32) (l2 : Int32) (μ : Mm) : Option (Int32 × Mm) :=
  if (mm_K μ a0).1 = 2 then (f_X1_findComings a0 ((1 : Int32) <<< (l1 &&& 31)) μ).bind fun x4 => (whl (f_X1_perhapsKnowing_L12 a0 l1 l2 x4) ((0 : Int32), (0 : Int32))).bind (fun b12 => some (b12, x4)) else none
abbrev Rn_X1_perhapsKnowing (G : Gv) (Q : Option Value → Mm → Prop) (mc ms c s : Nat) (pc : Nat) (lv : List (Nat × Value)) (st : List Value) (μ : Mm) : Prop := Rn G RX1 cX1_perhapsKnowing 5 (some .int) "perhapsKnowing" (rmd 15 mc ms) (Zm G mc ms Q) c s pc lv st μ
theorem t_X1_perhapsKnowing {a0 : Nat} {l1 : Int32} {l2 : Int32} {μ : Mm} {x : (Int32 × Mm)} (h : f_X1_perhapsKnowing a0 l1 l2 μ = some x) : Gr μ ((fun (q : (Int32 × Mm)) => q.2) x) := by
  have hk : Gr μ μ := Gr.rfl
  obtain ⟨_, h⟩ := ite_p h
  obtain ⟨x4, e4, h⟩ := bd h
  have hk := Gr.after (t_X1_findComings e4) hk
  obtain ⟨b12, w12, h⟩ := bd h
  have h := Option.some.inj h
  subst h
  exact hk
set_option maxRecDepth 100000 in
set_option maxHeartbeats 4000000 in
theorem m_X1_perhapsKnowing {G : Gv} (a0 : Nat) (l1 : Int32) (l2 : Int32) (μ : Mm) {r : (Int32 × Mm)} (hx : f_X1_perhapsKnowing a0 l1 l2 μ = some r) (mc ms : Nat) (hn : mm_N r.2 ≤ mm_N μ + mc) (hz : mm_Z r.2 ≤ mm_Z μ + ms) : Mt G yX1_perhapsKnowing cX1_perhapsKnowing 5 (some .int) 15 mc ms [.ref a0, .int l1, .int l2] μ (fun v μ' => v = some (.int r.1) ∧ μ' = r.2) := by
  have hN : Nz μ μ 0 0 := ⟨rfl, rfl⟩
  have hC : 0 ≤ mc ∧ 0 ≤ ms := ⟨Nat.zero_le _, Nat.zero_le _⟩
  have hB : ∀ x : (Int32 × Mm), x = r → mm_N ((fun (q : (Int32 × Mm)) => q.2) x) ≤ mm_N μ + mc ∧ mm_Z ((fun (q : (Int32 × Mm)) => q.2) x) ≤ mm_Z μ + ms := fun x e => by subst e; exact ⟨hn, hz⟩
  refine Mt.of (by decide) (Nat.le_of_ble_eq_true rfl) ?_
  show Rn_X1_perhapsKnowing G (fun v μ' => v = some (.int r.1) ∧ μ' = r.2) mc ms 0 0 0 [(0, .ref a0), (1, .int l1), (2, .int l2)] [] μ
  obtain ⟨_, h⟩ := Sat_ifp (show Sat (f_X1_perhapsKnowing a0 l1 l2 μ) (fun x => x = r) from ⟨_, hx, rfl⟩)
  refine r_aload_n dX1_perhapsKnowing_0 0 rfl ?_
  refine r_iconst (v := 1) dX1_perhapsKnowing_1 (by decide) ?_
  refine r_iload_n dX1_perhapsKnowing_2 1 rfl ?_
  refine r_ishl dX1_perhapsKnowing_3 ?_
  obtain ⟨x4, e4, h⟩ := Sat_bind h
  have hN := nz_call (t_X1_findComings e4) hN
  have hC := bud_of hN (by
    obtain ⟨x, h, hx⟩ := id h
    have hk : Gr (x4) (x4) := Gr.rfl
    refine bud_le (?_ : Gr _ ((fun (q : (Int32 × Mm)) => q.2) x)) (hB x hx)
    obtain ⟨b12, w12, h⟩ := bd h
    have h := Option.some.inj h
    subst h
    exact hk)
  refine r_bV (t := 2) [.int ((1 : Int32) <<< (l1 &&& 31))] [] (m_X1_findComings a0 ((1 : Int32) <<< (l1 &&& 31)) μ e4 (mm_N x4 - mm_N μ) (mm_Z x4 - mm_Z μ) gr_N gr_Z) ck_X1_findComings lk_X1_119 in_X1_findComings se_X1_findComings (kd_of e4) ⟨rfl, by decide, by decide⟩ rfl rfl (Nat.le_of_ble_eq_true rfl) ⟨Nat.le_of_ble_eq_true rfl, Nat.le_of_ble_eq_true rfl⟩ hC dX1_perhapsKnowing_4 ?_
  refine r_iconst (v := 0) dX1_perhapsKnowing_7 (by decide) ?_
  refine r_istore_n (lv' := [(3, .int (0 : Int32)), (0, .ref a0), (1, .int l1), (2, .int l2)]) dX1_perhapsKnowing_8 rfl (by decide) rfl ?_
  refine r_iconst (v := 0) dX1_perhapsKnowing_9 (by decide) ?_
  refine r_istore (lv' := [(4, .int (0 : Int32)), (3, .int (0 : Int32)), (0, .ref a0), (1, .int l1), (2, .int l2)]) dX1_perhapsKnowing_10 (by decide) rfl ?_
  refine r_sub (lv' := [(0, .ref a0), (1, .int l1), (2, .int l2), (3, .int (0 : Int32)), (4, .int (0 : Int32))]) [2, 3, 4, 1, 0] rfl ?_
  refine whl_K (s0 := (((0 : Int32), (0 : Int32)) : Int32 × Int32)) (RR := fun (s12 : Int32 × Int32) => Rn_X1_perhapsKnowing G (fun v μ' => v = some (.int r.1) ∧ μ' = r.2) mc ms (0 + (mm_N x4 - mm_N μ)) (0 + (mm_Z x4 - mm_Z μ)) 12 [(0, .ref a0), (1, .int l1), (2, .int l2), (3, .int s12.1), (4, .int s12.2)] [] x4) ?_ (Sat_bindK h)
  intro s12 K12 hI12 hX12 h
  refine r_iload dX1_perhapsKnowing_12 4 rfl ?_
  refine r_aload_n dX1_perhapsKnowing_14 0 rfl ?_
  obtain ⟨x15, e15, h⟩ := Sat_bind h
  refine r_getI fk_X1_122 rfl e15 dX1_perhapsKnowing_15 ?_
  refine r_icmp_ge 53 dX1_perhapsKnowing_18 (by decide) (fun c18 => ?_) (fun c18 => ?_)
  · have h := Sat_pos c18 h
    have h := hX12 _ (Sat_some h)
    refine r_iload_n dX1_perhapsKnowing_53 3 rfl ?_
    refine r_widen hC.1 hC.2 ?_
    exact r_ireturn rfl (by rw [← Sat_eq h]; exact ⟨rfl, rfl⟩) dX1_perhapsKnowing_54
  · have h := Sat_neg c18 h
    refine r_iload dX1_perhapsKnowing_21 4 rfl ?_
    refine r_aload_n dX1_perhapsKnowing_23 0 rfl ?_
    obtain ⟨x24, e24, h⟩ := Sat_bind h
    refine r_getP fk_X1_28 rfl e24 dX1_perhapsKnowing_24 ?_
    obtain ⟨x27, e27, h⟩ := Sat_bind h
    refine r_len e27 dX1_perhapsKnowing_27 ?_
    refine r_icmp_ge 53 dX1_perhapsKnowing_28 (by decide) (fun c28 => ?_) (fun c28 => ?_)
    · have h := Sat_pos c28 h
      have h := hX12 _ (Sat_some h)
      refine r_iload_n dX1_perhapsKnowing_53 3 rfl ?_
      refine r_widen hC.1 hC.2 ?_
      exact r_ireturn rfl (by rw [← Sat_eq h]; exact ⟨rfl, rfl⟩) dX1_perhapsKnowing_54
    · have h := Sat_neg c28 h
      refine r_iload_n dX1_perhapsKnowing_31 3 rfl ?_
      refine r_aload_n dX1_perhapsKnowing_32 0 rfl ?_
      refine r_iload_n dX1_perhapsKnowing_33 1 rfl ?_
      refine r_aload_n dX1_perhapsKnowing_34 0 rfl ?_
      obtain ⟨x35, e35, h⟩ := Sat_bind h
      refine r_getP fk_X1_28 rfl e35 dX1_perhapsKnowing_35 ?_
      refine r_iload dX1_perhapsKnowing_38 4 rfl ?_
      obtain ⟨x40, e40, h⟩ := Sat_bind h
      refine r_iaload e40 dX1_perhapsKnowing_40 ?_
      refine r_iload_n dX1_perhapsKnowing_41 2 rfl ?_
      obtain ⟨x42, e42, h⟩ := Sat_bind h
      refine r_cV (t := 2) [.int l1, .int x40, .int l2] [.int s12.1] (m_X1_knowingBehind a0 l1 x40 l2 x4 e42) ck_X1_knowingBehind lk_X1_152 in_X1_knowingBehind se_X1_knowingBehind (kd_of e42) ⟨rfl, by decide, by decide⟩ rfl rfl (Nat.le_of_ble_eq_true rfl) ⟨Nat.le_of_ble_eq_true rfl, Nat.le_of_ble_eq_true rfl⟩ hC dX1_perhapsKnowing_42 ?_
      refine r_ior dX1_perhapsKnowing_45 ?_
      obtain ⟨v46, e46, h⟩ := Sat_bind h
      refine r_topi (Option.some.inj e46) ?_
      refine r_istore_n (lv' := [(3, .int v46), (0, .ref a0), (1, .int l1), (2, .int l2), (4, .int s12.2)]) dX1_perhapsKnowing_46 rfl (by decide) rfl ?_
      obtain ⟨v47, e47, h⟩ := Sat_bind h
      refine r_iinc (j := 4) (v := v47) (lv' := [(4, .int v47), (3, .int v46), (0, .ref a0), (1, .int l1), (2, .int l2)]) dX1_perhapsKnowing_47 rfl (iinc_v e47 (by decide)) (by decide) rfl ?_
      refine r_goto 12 dX1_perhapsKnowing_50 (by decide) ?_
      exact r_sub [2, 3, 4, 1, 0] rfl (hI12 _ (Sat_some h))
theorem dX1_surelyKnowing_0 : decode cX1_surelyKnowing 0 = .ok (.aload_n 0, 1) := by decide +kernel
theorem dX1_surelyKnowing_1 : decode cX1_surelyKnowing 1 = .ok (.iconst 1, 1) := by decide +kernel
theorem dX1_surelyKnowing_2 : decode cX1_surelyKnowing 2 = .ok (.iload_n 1, 1) := by decide +kernel
theorem dX1_surelyKnowing_3 : decode cX1_surelyKnowing 3 = .ok (.ishl, 1) := by decide +kernel
theorem dX1_surelyKnowing_4 : decode cX1_surelyKnowing 4 = .ok (.invokevirtual 119, 3) := by decide +kernel
theorem dX1_surelyKnowing_7 : decode cX1_surelyKnowing 7 = .ok (.aload_n 0, 1) := by decide +kernel
theorem dX1_surelyKnowing_8 : decode cX1_surelyKnowing 8 = .ok (.getfield 122, 3) := by decide +kernel
theorem dX1_surelyKnowing_11 : decode cX1_surelyKnowing 11 = .ok (.ifCond .le 17, 3) := by decide +kernel
theorem dX1_surelyKnowing_14 : decode cX1_surelyKnowing 14 = .ok (.iconst 1, 1) := by decide +kernel
theorem dX1_surelyKnowing_15 : decode cX1_surelyKnowing 15 = .ok (.aload_n 0, 1) := by decide +kernel
theorem dX1_surelyKnowing_16 : decode cX1_surelyKnowing 16 = .ok (.getfield 31, 3) := by decide +kernel
theorem dX1_surelyKnowing_19 : decode cX1_surelyKnowing 19 = .ok (.getfield 149, 3) := by decide +kernel
theorem dX1_surelyKnowing_22 : decode cX1_surelyKnowing 22 = .ok (.ishl, 1) := by decide +kernel
theorem dX1_surelyKnowing_23 : decode cX1_surelyKnowing 23 = .ok (.iconst 1, 1) := by decide +kernel
theorem dX1_surelyKnowing_24 : decode cX1_surelyKnowing 24 = .ok (.isub, 1) := by decide +kernel
theorem dX1_surelyKnowing_25 : decode cX1_surelyKnowing 25 = .ok (.goto 4, 3) := by decide +kernel
theorem dX1_surelyKnowing_28 : decode cX1_surelyKnowing 28 = .ok (.iconst 0, 1) := by decide +kernel
theorem dX1_surelyKnowing_29 : decode cX1_surelyKnowing 29 = .ok (.istore_n 3, 1) := by decide +kernel
theorem dX1_surelyKnowing_30 : decode cX1_surelyKnowing 30 = .ok (.iconst 0, 1) := by decide +kernel
theorem dX1_surelyKnowing_31 : decode cX1_surelyKnowing 31 = .ok (.istore 4, 2) := by decide +kernel
theorem dX1_surelyKnowing_33 : decode cX1_surelyKnowing 33 = .ok (.iload 4, 2) := by decide +kernel
theorem dX1_surelyKnowing_35 : decode cX1_surelyKnowing 35 = .ok (.aload_n 0, 1) := by decide +kernel
theorem dX1_surelyKnowing_36 : decode cX1_surelyKnowing 36 = .ok (.getfield 122, 3) := by decide +kernel
theorem dX1_surelyKnowing_39 : decode cX1_surelyKnowing 39 = .ok (.if_icmp .ge 35, 3) := by decide +kernel
theorem dX1_surelyKnowing_42 : decode cX1_surelyKnowing 42 = .ok (.iload 4, 2) := by decide +kernel
theorem dX1_surelyKnowing_44 : decode cX1_surelyKnowing 44 = .ok (.aload_n 0, 1) := by decide +kernel
theorem dX1_surelyKnowing_45 : decode cX1_surelyKnowing 45 = .ok (.getfield 28, 3) := by decide +kernel
theorem dX1_surelyKnowing_48 : decode cX1_surelyKnowing 48 = .ok (.arraylength, 1) := by decide +kernel
theorem dX1_surelyKnowing_49 : decode cX1_surelyKnowing 49 = .ok (.if_icmp .ge 25, 3) := by decide +kernel
theorem dX1_surelyKnowing_52 : decode cX1_surelyKnowing 52 = .ok (.iload_n 3, 1) := by decide +kernel
theorem dX1_surelyKnowing_53 : decode cX1_surelyKnowing 53 = .ok (.aload_n 0, 1) := by decide +kernel
theorem dX1_surelyKnowing_54 : decode cX1_surelyKnowing 54 = .ok (.iload_n 1, 1) := by decide +kernel
theorem dX1_surelyKnowing_55 : decode cX1_surelyKnowing 55 = .ok (.aload_n 0, 1) := by decide +kernel
theorem dX1_surelyKnowing_56 : decode cX1_surelyKnowing 56 = .ok (.getfield 28, 3) := by decide +kernel
theorem dX1_surelyKnowing_59 : decode cX1_surelyKnowing 59 = .ok (.iload 4, 2) := by decide +kernel
theorem dX1_surelyKnowing_61 : decode cX1_surelyKnowing 61 = .ok (.iaload, 1) := by decide +kernel
theorem dX1_surelyKnowing_62 : decode cX1_surelyKnowing 62 = .ok (.iload_n 2, 1) := by decide +kernel
theorem dX1_surelyKnowing_63 : decode cX1_surelyKnowing 63 = .ok (.invokevirtual 152, 3) := by decide +kernel
theorem dX1_surelyKnowing_66 : decode cX1_surelyKnowing 66 = .ok (.iand, 1) := by decide +kernel
theorem dX1_surelyKnowing_67 : decode cX1_surelyKnowing 67 = .ok (.istore_n 3, 1) := by decide +kernel
theorem dX1_surelyKnowing_68 : decode cX1_surelyKnowing 68 = .ok (.iinc 4 1, 3) := by decide +kernel
theorem dX1_surelyKnowing_71 : decode cX1_surelyKnowing 71 = .ok (.goto (-38), 3) := by decide +kernel
theorem dX1_surelyKnowing_74 : decode cX1_surelyKnowing 74 = .ok (.iload_n 3, 1) := by decide +kernel
theorem dX1_surelyKnowing_75 : decode cX1_surelyKnowing 75 = .ok (.ireturn, 1) := by decide +kernel
noncomputable def f_X1_surelyKnowing_L33 (a0 : Nat) (l1 : Int32) (l2 : Int32) (μ : Mm) (s33 : Int32 × Int32) : Option ((Int32 × Int32) ⊕ (Int32)) :=
  (gf_I 2 8 a0 μ).bind fun x36 => if x36 ≤ s33.2 then some (.inr s33.1) else (gf_P 2 7 a0 μ).bind fun x45 => (ga_len x45 μ).bind fun x48 => if x48 ≤ s33.2 then some (.inr s33.1) else (gf_P 2 7 a0 μ).bind fun x56 => (ga_I x56 s33.2 μ).bind fun x61 => (f_X1_knowingBehind a0 l1 x61 l2 μ).bind fun x63 => (some (s33.1 &&& x63)).bind fun v67 => (some (s33.2 + (1 : Int32))).bind fun v68 => some (.inl (v67, v68))
noncomputable def f_X1_surelyKnowing_J29 (a0 : Nat) (l1 : Int32) (l2 : Int32) (k0 : Int32) (μ : Mm) : Option (Int32 × Mm) :=
  (whl (f_X1_surelyKnowing_L33 a0 l1 l2 μ) (k0, (0 : Int32))).bind (fun b33 => some (b33, μ))
noncomputable def f_X1_surelyKnowing (a0 : Nat) (l1 : Int32) (l2 : Int32) (μ : Mm) : Option (Int32 × Mm) :=
  if (mm_K μ a0).1 = 2 then (f_X1_findComings a0 ((1 : Int32) <<< (l1 &&& 31)) μ).bind fun x4 => (gf_I 2 8 a0 x4).bind fun x8 => if x8 ≤ 0 then f_X1_surelyKnowing_J29 a0 l1 l2 (0 : Int32) x4 else (gf_P 2 5 a0 x4).bind fun x16 => (gf_I 8 9 x16 x4).bind fun x19 => f_X1_surelyKnowing_J29 a0 l1 l2 (((1 : Int32) <<< (x19 &&& 31)) - (1 : Int32)) x4 else none
abbrev Rn_X1_surelyKnowing (G : Gv) (Q : Option Value → Mm → Prop) (mc ms c s : Nat) (pc : Nat) (lv : List (Nat × Value)) (st : List Value) (μ : Mm) : Prop := Rn G RX1 cX1_surelyKnowing 5 (some .int) "surelyKnowing" (rmd 15 mc ms) (Zm G mc ms Q) c s pc lv st μ
theorem t_X1_surelyKnowing_J29 {a0 : Nat} {l1 : Int32} {l2 : Int32} {k0 : Int32} {μ : Mm} {x : (Int32 × Mm)} (h : f_X1_surelyKnowing_J29 a0 l1 l2 k0 μ = some x) : Gr μ ((fun (q : (Int32 × Mm)) => q.2) x) := by
  have hk : Gr μ μ := Gr.rfl
  obtain ⟨b33, w33, h⟩ := bd h
  have h := Option.some.inj h
  subst h
  exact hk
theorem t_X1_surelyKnowing {a0 : Nat} {l1 : Int32} {l2 : Int32} {μ : Mm} {x : (Int32 × Mm)} (h : f_X1_surelyKnowing a0 l1 l2 μ = some x) : Gr μ ((fun (q : (Int32 × Mm)) => q.2) x) := by
  have hk : Gr μ μ := Gr.rfl
  obtain ⟨_, h⟩ := ite_p h
  obtain ⟨x4, e4, h⟩ := bd h
  have hk := Gr.after (t_X1_findComings e4) hk
  obtain ⟨x8, e8, h⟩ := bd h
  rcases ite_e h with ⟨_, h⟩ | ⟨_, h⟩
  · exact Gr.after (t_X1_surelyKnowing_J29 h) hk
  · obtain ⟨x16, e16, h⟩ := bd h
    obtain ⟨x19, e19, h⟩ := bd h
    exact Gr.after (t_X1_surelyKnowing_J29 h) hk
set_option maxRecDepth 100000 in
set_option maxHeartbeats 4000000 in
theorem m_X1_surelyKnowing {G : Gv} (a0 : Nat) (l1 : Int32) (l2 : Int32) (μ : Mm) {r : (Int32 × Mm)} (hx : f_X1_surelyKnowing a0 l1 l2 μ = some r) (mc ms : Nat) (hn : mm_N r.2 ≤ mm_N μ + mc) (hz : mm_Z r.2 ≤ mm_Z μ + ms) : Mt G yX1_surelyKnowing cX1_surelyKnowing 5 (some .int) 15 mc ms [.ref a0, .int l1, .int l2] μ (fun v μ' => v = some (.int r.1) ∧ μ' = r.2) := by
  have hN : Nz μ μ 0 0 := ⟨rfl, rfl⟩
  have hC : 0 ≤ mc ∧ 0 ≤ ms := ⟨Nat.zero_le _, Nat.zero_le _⟩
  have hB : ∀ x : (Int32 × Mm), x = r → mm_N ((fun (q : (Int32 × Mm)) => q.2) x) ≤ mm_N μ + mc ∧ mm_Z ((fun (q : (Int32 × Mm)) => q.2) x) ≤ mm_Z μ + ms := fun x e => by subst e; exact ⟨hn, hz⟩
  refine Mt.of (by decide) (Nat.le_of_ble_eq_true rfl) ?_
  show Rn_X1_surelyKnowing G (fun v μ' => v = some (.int r.1) ∧ μ' = r.2) mc ms 0 0 0 [(0, .ref a0), (1, .int l1), (2, .int l2)] [] μ
  obtain ⟨_, h⟩ := Sat_ifp (show Sat (f_X1_surelyKnowing a0 l1 l2 μ) (fun x => x = r) from ⟨_, hx, rfl⟩)
  have J29 : ∀ (a0_29 : Nat) (l1_29 : Int32) (l2_29 : Int32) (k0_29 : Int32) (μ_29 : Mm), ∀ (c29 z29 : Nat), Nz μ μ_29 c29 z29 → c29 ≤ mc ∧ z29 ≤ ms → Sat (f_X1_surelyKnowing_J29 a0_29 l1_29 l2_29 k0_29 μ_29) (fun x => x = r) → Rn_X1_surelyKnowing G (fun v μ' => v = some (.int r.1) ∧ μ' = r.2) mc ms c29 z29 29 [(0, .ref a0_29), (1, .int l1_29), (2, .int l2_29)] [.int k0_29] μ_29 := by
    intro a0_29 l1_29 l2_29 k0_29 μ_29 c29 z29 hN hC h
    refine r_istore_n (lv' := [(3, .int k0_29), (0, .ref a0_29), (1, .int l1_29), (2, .int l2_29)]) dX1_surelyKnowing_29 rfl (by decide) rfl ?_
    refine r_iconst (v := 0) dX1_surelyKnowing_30 (by decide) ?_
    refine r_istore (lv' := [(4, .int (0 : Int32)), (3, .int k0_29), (0, .ref a0_29), (1, .int l1_29), (2, .int l2_29)]) dX1_surelyKnowing_31 (by decide) rfl ?_
    refine r_sub (lv' := [(0, .ref a0_29), (1, .int l1_29), (2, .int l2_29), (3, .int k0_29), (4, .int (0 : Int32))]) [2, 3, 4, 1, 0] rfl ?_
    refine whl_K (s0 := ((k0_29, (0 : Int32)) : Int32 × Int32)) (RR := fun (s33 : Int32 × Int32) => Rn_X1_surelyKnowing G (fun v μ' => v = some (.int r.1) ∧ μ' = r.2) mc ms c29 z29 33 [(0, .ref a0_29), (1, .int l1_29), (2, .int l2_29), (3, .int s33.1), (4, .int s33.2)] [] μ_29) ?_ (Sat_bindK h)
    intro s33 K33 hI33 hX33 h
    refine r_iload dX1_surelyKnowing_33 4 rfl ?_
    refine r_aload_n dX1_surelyKnowing_35 0 rfl ?_
    obtain ⟨x36, e36, h⟩ := Sat_bind h
    refine r_getI fk_X1_122 rfl e36 dX1_surelyKnowing_36 ?_
    refine r_icmp_ge 74 dX1_surelyKnowing_39 (by decide) (fun c39 => ?_) (fun c39 => ?_)
    · have h := Sat_pos c39 h
      have h := hX33 _ (Sat_some h)
      refine r_iload_n dX1_surelyKnowing_74 3 rfl ?_
      refine r_widen hC.1 hC.2 ?_
      exact r_ireturn rfl (by rw [← Sat_eq h]; exact ⟨rfl, rfl⟩) dX1_surelyKnowing_75
    · have h := Sat_neg c39 h
      refine r_iload dX1_surelyKnowing_42 4 rfl ?_
      refine r_aload_n dX1_surelyKnowing_44 0 rfl ?_
      obtain ⟨x45, e45, h⟩ := Sat_bind h
      refine r_getP fk_X1_28 rfl e45 dX1_surelyKnowing_45 ?_
      obtain ⟨x48, e48, h⟩ := Sat_bind h
      refine r_len e48 dX1_surelyKnowing_48 ?_
      refine r_icmp_ge 74 dX1_surelyKnowing_49 (by decide) (fun c49 => ?_) (fun c49 => ?_)
      · have h := Sat_pos c49 h
        have h := hX33 _ (Sat_some h)
        refine r_iload_n dX1_surelyKnowing_74 3 rfl ?_
        refine r_widen hC.1 hC.2 ?_
        exact r_ireturn rfl (by rw [← Sat_eq h]; exact ⟨rfl, rfl⟩) dX1_surelyKnowing_75
      · have h := Sat_neg c49 h
        refine r_iload_n dX1_surelyKnowing_52 3 rfl ?_
        refine r_aload_n dX1_surelyKnowing_53 0 rfl ?_
        refine r_iload_n dX1_surelyKnowing_54 1 rfl ?_
        refine r_aload_n dX1_surelyKnowing_55 0 rfl ?_
        obtain ⟨x56, e56, h⟩ := Sat_bind h
        refine r_getP fk_X1_28 rfl e56 dX1_surelyKnowing_56 ?_
        refine r_iload dX1_surelyKnowing_59 4 rfl ?_
        obtain ⟨x61, e61, h⟩ := Sat_bind h
        refine r_iaload e61 dX1_surelyKnowing_61 ?_
        refine r_iload_n dX1_surelyKnowing_62 2 rfl ?_
        obtain ⟨x63, e63, h⟩ := Sat_bind h
        refine r_cV (t := 2) [.int l1_29, .int x61, .int l2_29] [.int s33.1] (m_X1_knowingBehind a0_29 l1_29 x61 l2_29 μ_29 e63) ck_X1_knowingBehind lk_X1_152 in_X1_knowingBehind se_X1_knowingBehind (kd_of e63) ⟨rfl, by decide, by decide⟩ rfl rfl (Nat.le_of_ble_eq_true rfl) ⟨Nat.le_of_ble_eq_true rfl, Nat.le_of_ble_eq_true rfl⟩ hC dX1_surelyKnowing_63 ?_
        refine r_iand dX1_surelyKnowing_66 ?_
        obtain ⟨v67, e67, h⟩ := Sat_bind h
        refine r_topi (Option.some.inj e67) ?_
        refine r_istore_n (lv' := [(3, .int v67), (0, .ref a0_29), (1, .int l1_29), (2, .int l2_29), (4, .int s33.2)]) dX1_surelyKnowing_67 rfl (by decide) rfl ?_
        obtain ⟨v68, e68, h⟩ := Sat_bind h
        refine r_iinc (j := 4) (v := v68) (lv' := [(4, .int v68), (3, .int v67), (0, .ref a0_29), (1, .int l1_29), (2, .int l2_29)]) dX1_surelyKnowing_68 rfl (iinc_v e68 (by decide)) (by decide) rfl ?_
        refine r_goto 33 dX1_surelyKnowing_71 (by decide) ?_
        exact r_sub [2, 3, 4, 1, 0] rfl (hI33 _ (Sat_some h))
  refine r_aload_n dX1_surelyKnowing_0 0 rfl ?_
  refine r_iconst (v := 1) dX1_surelyKnowing_1 (by decide) ?_
  refine r_iload_n dX1_surelyKnowing_2 1 rfl ?_
  refine r_ishl dX1_surelyKnowing_3 ?_
  obtain ⟨x4, e4, h⟩ := Sat_bind h
  have hN := nz_call (t_X1_findComings e4) hN
  have hC := bud_of hN (by
    obtain ⟨x, h, hx⟩ := id h
    have hk : Gr (x4) (x4) := Gr.rfl
    refine bud_le (?_ : Gr _ ((fun (q : (Int32 × Mm)) => q.2) x)) (hB x hx)
    obtain ⟨x8, e8, h⟩ := bd h
    rcases ite_e h with ⟨_, h⟩ | ⟨_, h⟩
    · exact Gr.after (t_X1_surelyKnowing_J29 h) hk
    · obtain ⟨x16, e16, h⟩ := bd h
      obtain ⟨x19, e19, h⟩ := bd h
      exact Gr.after (t_X1_surelyKnowing_J29 h) hk)
  refine r_bV (t := 2) [.int ((1 : Int32) <<< (l1 &&& 31))] [] (m_X1_findComings a0 ((1 : Int32) <<< (l1 &&& 31)) μ e4 (mm_N x4 - mm_N μ) (mm_Z x4 - mm_Z μ) gr_N gr_Z) ck_X1_findComings lk_X1_119 in_X1_findComings se_X1_findComings (kd_of e4) ⟨rfl, by decide, by decide⟩ rfl rfl (Nat.le_of_ble_eq_true rfl) ⟨Nat.le_of_ble_eq_true rfl, Nat.le_of_ble_eq_true rfl⟩ hC dX1_surelyKnowing_4 ?_
  refine r_aload_n dX1_surelyKnowing_7 0 rfl ?_
  obtain ⟨x8, e8, h⟩ := Sat_bind h
  refine r_getI fk_X1_122 rfl e8 dX1_surelyKnowing_8 ?_
  refine r_if_le 28 dX1_surelyKnowing_11 (by decide) (fun c11 => ?_) (fun c11 => ?_)
  · have h := Sat_pos c11 h
    refine r_iconst (v := 0) dX1_surelyKnowing_28 (by decide) ?_
    exact r_sub [0, 1, 2] rfl (J29 a0 l1 l2 (0 : Int32) x4 (0 + (mm_N x4 - mm_N μ)) (0 + (mm_Z x4 - mm_Z μ)) hN hC h)
  · have h := Sat_neg c11 h
    refine r_iconst (v := 1) dX1_surelyKnowing_14 (by decide) ?_
    refine r_aload_n dX1_surelyKnowing_15 0 rfl ?_
    obtain ⟨x16, e16, h⟩ := Sat_bind h
    refine r_getP fk_X1_31 rfl e16 dX1_surelyKnowing_16 ?_
    obtain ⟨x19, e19, h⟩ := Sat_bind h
    refine r_getI fk_X1_149 rfl e19 dX1_surelyKnowing_19 ?_
    refine r_ishl dX1_surelyKnowing_22 ?_
    refine r_iconst (v := 1) dX1_surelyKnowing_23 (by decide) ?_
    refine r_isub dX1_surelyKnowing_24 ?_
    refine r_goto 29 dX1_surelyKnowing_25 (by decide) ?_
    exact r_sub [0, 1, 2] rfl (J29 a0 l1 l2 (((1 : Int32) <<< (x19 &&& 31)) - (1 : Int32)) x4 (0 + (mm_N x4 - mm_N μ)) (0 + (mm_Z x4 - mm_Z μ)) hN hC h)
theorem dX10_knowers_0 : decode cX10_knowers 0 = .ok (.aload_n 0, 1) := by decide +kernel
theorem dX10_knowers_1 : decode cX10_knowers 1 = .ok (.getfield 63, 3) := by decide +kernel
theorem dX10_knowers_4 : decode cX10_knowers 4 = .ok (.iload_n 1, 1) := by decide +kernel
theorem dX10_knowers_5 : decode cX10_knowers 5 = .ok (.invokevirtual 188, 3) := by decide +kernel
theorem dX10_knowers_8 : decode cX10_knowers 8 = .ok (.ifCond .eq 17, 3) := by decide +kernel
theorem dX10_knowers_11 : decode cX10_knowers 11 = .ok (.iload_n 2, 1) := by decide +kernel
theorem dX10_knowers_12 : decode cX10_knowers 12 = .ok (.invokestatic 214, 3) := by decide +kernel
theorem dX10_knowers_15 : decode cX10_knowers 15 = .ok (.ifCond .eq 10, 3) := by decide +kernel
theorem dX10_knowers_18 : decode cX10_knowers 18 = .ok (.iload_n 3, 1) := by decide +kernel
theorem dX10_knowers_19 : decode cX10_knowers 19 = .ok (.invokestatic 291, 3) := by decide +kernel
theorem dX10_knowers_22 : decode cX10_knowers 22 = .ok (.ifCond .ne 6, 3) := by decide +kernel
theorem dX10_knowers_25 : decode cX10_knowers 25 = .ok (.bipush (-2), 2) := by decide +kernel
theorem dX10_knowers_27 : decode cX10_knowers 27 = .ok (.ireturn, 1) := by decide +kernel
theorem dX10_knowers_28 : decode cX10_knowers 28 = .ok (.iload 4, 2) := by decide +kernel
theorem dX10_knowers_30 : decode cX10_knowers 30 = .ok (.ifCond .lt 9, 3) := by decide +kernel
theorem dX10_knowers_33 : decode cX10_knowers 33 = .ok (.iload 4, 2) := by decide +kernel
theorem dX10_knowers_35 : decode cX10_knowers 35 = .ok (.iconst 1, 1) := by decide +kernel
theorem dX10_knowers_36 : decode cX10_knowers 36 = .ok (.if_icmp .le 6, 3) := by decide +kernel
theorem dX10_knowers_39 : decode cX10_knowers 39 = .ok (.bipush (-2), 2) := by decide +kernel
theorem dX10_knowers_41 : decode cX10_knowers 41 = .ok (.ireturn, 1) := by decide +kernel
theorem dX10_knowers_42 : decode cX10_knowers 42 = .ok (.aload_n 0, 1) := by decide +kernel
theorem dX10_knowers_43 : decode cX10_knowers 43 = .ok (.getfield 93, 3) := by decide +kernel
theorem dX10_knowers_46 : decode cX10_knowers 46 = .ok (.iload_n 3, 1) := by decide +kernel
theorem dX10_knowers_47 : decode cX10_knowers 47 = .ok (.invokevirtual 294, 3) := by decide +kernel
theorem dX10_knowers_50 : decode cX10_knowers 50 = .ok (.iload 4, 2) := by decide +kernel
theorem dX10_knowers_52 : decode cX10_knowers 52 = .ok (.ifCond .ne 15, 3) := by decide +kernel
theorem dX10_knowers_55 : decode cX10_knowers 55 = .ok (.aload_n 0, 1) := by decide +kernel
theorem dX10_knowers_56 : decode cX10_knowers 56 = .ok (.getfield 93, 3) := by decide +kernel
theorem dX10_knowers_59 : decode cX10_knowers 59 = .ok (.iload_n 1, 1) := by decide +kernel
theorem dX10_knowers_60 : decode cX10_knowers 60 = .ok (.iload_n 2, 1) := by decide +kernel
theorem dX10_knowers_61 : decode cX10_knowers 61 = .ok (.invokevirtual 321, 3) := by decide +kernel
theorem dX10_knowers_64 : decode cX10_knowers 64 = .ok (.goto 12, 3) := by decide +kernel
theorem dX10_knowers_67 : decode cX10_knowers 67 = .ok (.aload_n 0, 1) := by decide +kernel
theorem dX10_knowers_68 : decode cX10_knowers 68 = .ok (.getfield 93, 3) := by decide +kernel
theorem dX10_knowers_71 : decode cX10_knowers 71 = .ok (.iload_n 1, 1) := by decide +kernel
theorem dX10_knowers_72 : decode cX10_knowers 72 = .ok (.iload_n 2, 1) := by decide +kernel
theorem dX10_knowers_73 : decode cX10_knowers 73 = .ok (.invokevirtual 324, 3) := by decide +kernel
theorem dX10_knowers_76 : decode cX10_knowers 76 = .ok (.ireturn, 1) := by decide +kernel
noncomputable def f_X10_knowers (a0 : Nat) (l1 : Int32) (l2 : Int32) (l3 : Int32) (l4 : Int32) (μ : Mm) : Option (Int32 × Mm) :=
  if (mm_K μ a0).1 = 11 then (gf_P 11 13 a0 μ).bind fun x1 => (f_X7_isFact x1 l1 μ).bind fun x5 => if x5 = 0 then some ((-2 : Int32), μ) else (f_X10_isDay l2 μ).bind fun x12 => if x12 = 0 then some ((-2 : Int32), μ) else (f_X10_isStep l3 μ).bind fun x19 => if x19 = 0 then some ((-2 : Int32), μ) else if l4 < 0 then some ((-2 : Int32), μ) else if l4 ≤ (1 : Int32) then (gf_P 11 5 a0 μ).bind fun x43 => (f_X1_findFitting x43 l3 μ).bind fun x47 => if l4 = 0 then (gf_P 11 5 a0 x47).bind fun x56 => (f_X1_surelyKnowing x56 l1 l2 x47).bind fun x61 => some (x61.1, x61.2) else (gf_P 11 5 a0 x47).bind fun x68 => (f_X1_perhapsKnowing x68 l1 l2 x47).bind fun x73 => some (x73.1, x73.2) else some ((-2 : Int32), μ) else none
abbrev Rn_X10_knowers (G : Gv) (Q : Option Value → Mm → Prop) (mc ms c s : Nat) (pc : Nat) (lv : List (Nat × Value)) (st : List Value) (μ : Mm) : Prop := Rn G RX10 cX10_knowers 5 (some .int) "knowers" (rmd 16 mc ms) (Zm G mc ms Q) c s pc lv st μ
theorem t_X10_knowers {a0 : Nat} {l1 : Int32} {l2 : Int32} {l3 : Int32} {l4 : Int32} {μ : Mm} {x : (Int32 × Mm)} (h : f_X10_knowers a0 l1 l2 l3 l4 μ = some x) : Gr μ ((fun (q : (Int32 × Mm)) => q.2) x) := by
  have hk : Gr μ μ := Gr.rfl
  obtain ⟨_, h⟩ := ite_p h
  obtain ⟨x1, e1, h⟩ := bd h
  obtain ⟨x5, e5, h⟩ := bd h
  rcases ite_e h with ⟨_, h⟩ | ⟨_, h⟩
  · have h := Option.some.inj h
    subst h
    exact hk
  · obtain ⟨x12, e12, h⟩ := bd h
    rcases ite_e h with ⟨_, h⟩ | ⟨_, h⟩
    · have h := Option.some.inj h
      subst h
      exact hk
    · obtain ⟨x19, e19, h⟩ := bd h
      rcases ite_e h with ⟨_, h⟩ | ⟨_, h⟩
      · have h := Option.some.inj h
        subst h
        exact hk
      · rcases ite_e h with ⟨_, h⟩ | ⟨_, h⟩
        · have h := Option.some.inj h
          subst h
          exact hk
        · rcases ite_e h with ⟨_, h⟩ | ⟨_, h⟩
          · obtain ⟨x43, e43, h⟩ := bd h
            obtain ⟨x47, e47, h⟩ := bd h
            have hk := Gr.after (t_X1_findFitting e47) hk
            rcases ite_e h with ⟨_, h⟩ | ⟨_, h⟩
            · obtain ⟨x56, e56, h⟩ := bd h
              obtain ⟨x61, e61, h⟩ := bd h
              have hk := Gr.after (t_X1_surelyKnowing e61) hk
              have h := Option.some.inj h
              subst h
              exact hk
            · obtain ⟨x68, e68, h⟩ := bd h
              obtain ⟨x73, e73, h⟩ := bd h
              have hk := Gr.after (t_X1_perhapsKnowing e73) hk
              have h := Option.some.inj h
              subst h
              exact hk
          · have h := Option.some.inj h
            subst h
            exact hk
set_option maxRecDepth 100000 in
set_option maxHeartbeats 4000000 in
theorem m_X10_knowers {G : Gv} (a0 : Nat) (l1 : Int32) (l2 : Int32) (l3 : Int32) (l4 : Int32) (μ : Mm) {r : (Int32 × Mm)} (hx : f_X10_knowers a0 l1 l2 l3 l4 μ = some r) (mc ms : Nat) (hn : mm_N r.2 ≤ mm_N μ + mc) (hz : mm_Z r.2 ≤ mm_Z μ + ms) : Mt G yX10_knowers cX10_knowers 5 (some .int) 16 mc ms [.ref a0, .int l1, .int l2, .int l3, .int l4] μ (fun v μ' => v = some (.int r.1) ∧ μ' = r.2) := by
  have hN : Nz μ μ 0 0 := ⟨rfl, rfl⟩
  have hC : 0 ≤ mc ∧ 0 ≤ ms := ⟨Nat.zero_le _, Nat.zero_le _⟩
  have hB : ∀ x : (Int32 × Mm), x = r → mm_N ((fun (q : (Int32 × Mm)) => q.2) x) ≤ mm_N μ + mc ∧ mm_Z ((fun (q : (Int32 × Mm)) => q.2) x) ≤ mm_Z μ + ms := fun x e => by subst e; exact ⟨hn, hz⟩
  refine Mt.of (by decide) (Nat.le_of_ble_eq_true rfl) ?_
  show Rn_X10_knowers G (fun v μ' => v = some (.int r.1) ∧ μ' = r.2) mc ms 0 0 0 [(0, .ref a0), (1, .int l1), (2, .int l2), (3, .int l3), (4, .int l4)] [] μ
  obtain ⟨_, h⟩ := Sat_ifp (show Sat (f_X10_knowers a0 l1 l2 l3 l4 μ) (fun x => x = r) from ⟨_, hx, rfl⟩)
  refine r_aload_n dX10_knowers_0 0 rfl ?_
  obtain ⟨x1, e1, h⟩ := Sat_bind h
  refine r_getP fk_X10_63 rfl e1 dX10_knowers_1 ?_
  refine r_iload_n dX10_knowers_4 1 rfl ?_
  obtain ⟨x5, e5, h⟩ := Sat_bind h
  refine r_cV (t := 8) [.int l1] [] (m_X7_isFact x1 l1 μ e5) ck_X7_isFact lk_X10_188 in_X7_isFact se_X7_isFact (kd_of e5) ⟨rfl, by decide, by decide⟩ rfl rfl (Nat.le_of_ble_eq_true rfl) ⟨Nat.le_of_ble_eq_true rfl, Nat.le_of_ble_eq_true rfl⟩ hC dX10_knowers_5 ?_
  refine r_if_eq 25 dX10_knowers_8 (by decide) (fun c8 => ?_) (fun c8 => ?_)
  · have h := Sat_pos c8 h
    refine r_bipush (v := -2) dX10_knowers_25 (by decide) ?_
    refine r_widen hC.1 hC.2 ?_
    exact r_ireturn rfl (by rw [← Sat_eq h]; exact ⟨rfl, rfl⟩) dX10_knowers_27
  · have h := Sat_neg c8 h
    refine r_iload_n dX10_knowers_11 2 rfl ?_
    obtain ⟨x12, e12, h⟩ := Sat_bind h
    refine r_cS [.int l2] [] (m_X10_isDay l2 μ e12) ck_X10_isDay lk_X10_214 st_X10_isDay rfl rfl (Nat.le_of_ble_eq_true rfl) ⟨Nat.le_of_ble_eq_true rfl, Nat.le_of_ble_eq_true rfl⟩ hC dX10_knowers_12 ?_
    refine r_if_eq 25 dX10_knowers_15 (by decide) (fun c15 => ?_) (fun c15 => ?_)
    · have h := Sat_pos c15 h
      refine r_bipush (v := -2) dX10_knowers_25 (by decide) ?_
      refine r_widen hC.1 hC.2 ?_
      exact r_ireturn rfl (by rw [← Sat_eq h]; exact ⟨rfl, rfl⟩) dX10_knowers_27
    · have h := Sat_neg c15 h
      refine r_iload_n dX10_knowers_18 3 rfl ?_
      obtain ⟨x19, e19, h⟩ := Sat_bind h
      refine r_cS [.int l3] [] (m_X10_isStep l3 μ e19) ck_X10_isStep lk_X10_291 st_X10_isStep rfl rfl (Nat.le_of_ble_eq_true rfl) ⟨Nat.le_of_ble_eq_true rfl, Nat.le_of_ble_eq_true rfl⟩ hC dX10_knowers_19 ?_
      refine r_if_ne 28 dX10_knowers_22 (by decide) (fun c22 => ?_) (fun c22 => ?_)
      · have h := Sat_neg c22 h
        refine r_iload dX10_knowers_28 4 rfl ?_
        refine r_if_lt 39 dX10_knowers_30 (by decide) (fun c30 => ?_) (fun c30 => ?_)
        · have h := Sat_pos c30 h
          refine r_bipush (v := -2) dX10_knowers_39 (by decide) ?_
          refine r_widen hC.1 hC.2 ?_
          exact r_ireturn rfl (by rw [← Sat_eq h]; exact ⟨rfl, rfl⟩) dX10_knowers_41
        · have h := Sat_neg c30 h
          refine r_iload dX10_knowers_33 4 rfl ?_
          refine r_iconst (v := 1) dX10_knowers_35 (by decide) ?_
          refine r_icmp_le 42 dX10_knowers_36 (by decide) (fun c36 => ?_) (fun c36 => ?_)
          · have h := Sat_pos c36 h
            refine r_aload_n dX10_knowers_42 0 rfl ?_
            obtain ⟨x43, e43, h⟩ := Sat_bind h
            refine r_getP fk_X10_93 rfl e43 dX10_knowers_43 ?_
            refine r_iload_n dX10_knowers_46 3 rfl ?_
            obtain ⟨x47, e47, h⟩ := Sat_bind h
            have hN := nz_call (t_X1_findFitting e47) hN
            have hC := bud_of hN (by
              obtain ⟨x, h, hx⟩ := id h
              have hk : Gr (x47) (x47) := Gr.rfl
              refine bud_le (?_ : Gr _ ((fun (q : (Int32 × Mm)) => q.2) x)) (hB x hx)
              rcases ite_e h with ⟨_, h⟩ | ⟨_, h⟩
              · obtain ⟨x56, e56, h⟩ := bd h
                obtain ⟨x61, e61, h⟩ := bd h
                have hk := Gr.after (t_X1_surelyKnowing e61) hk
                have h := Option.some.inj h
                subst h
                exact hk
              · obtain ⟨x68, e68, h⟩ := bd h
                obtain ⟨x73, e73, h⟩ := bd h
                have hk := Gr.after (t_X1_perhapsKnowing e73) hk
                have h := Option.some.inj h
                subst h
                exact hk)
            refine r_bV (t := 2) [.int l3] [] (m_X1_findFitting x43 l3 μ e47 (mm_N x47 - mm_N μ) (mm_Z x47 - mm_Z μ) gr_N gr_Z) ck_X1_findFitting lk_X10_294 in_X1_findFitting se_X1_findFitting (kd_of e47) ⟨rfl, by decide, by decide⟩ rfl rfl (Nat.le_of_ble_eq_true rfl) ⟨Nat.le_of_ble_eq_true rfl, Nat.le_of_ble_eq_true rfl⟩ hC dX10_knowers_47 ?_
            refine r_iload dX10_knowers_50 4 rfl ?_
            refine r_if_ne 67 dX10_knowers_52 (by decide) (fun c52 => ?_) (fun c52 => ?_)
            · have h := Sat_neg c52 h
              refine r_aload_n dX10_knowers_67 0 rfl ?_
              obtain ⟨x68, e68, h⟩ := Sat_bind h
              refine r_getP fk_X10_93 rfl e68 dX10_knowers_68 ?_
              refine r_iload_n dX10_knowers_71 1 rfl ?_
              refine r_iload_n dX10_knowers_72 2 rfl ?_
              obtain ⟨x73, e73, h⟩ := Sat_bind h
              have hN := nz_call (t_X1_perhapsKnowing e73) hN
              have hC := bud_of hN (by
                obtain ⟨x, h, hx⟩ := id h
                have hk : Gr (x73.2) (x73.2) := Gr.rfl
                refine bud_le (?_ : Gr _ ((fun (q : (Int32 × Mm)) => q.2) x)) (hB x hx)
                have h := Option.some.inj h
                subst h
                exact hk)
              refine r_bV (t := 2) [.int l1, .int l2] [] (m_X1_perhapsKnowing x68 l1 l2 x47 e73 (mm_N x73.2 - mm_N x47) (mm_Z x73.2 - mm_Z x47) gr_N gr_Z) ck_X1_perhapsKnowing lk_X10_324 in_X1_perhapsKnowing se_X1_perhapsKnowing (kd_of e73) ⟨rfl, by decide, by decide⟩ rfl rfl (Nat.le_of_ble_eq_true rfl) ⟨Nat.le_of_ble_eq_true rfl, Nat.le_of_ble_eq_true rfl⟩ hC dX10_knowers_73 ?_
              refine r_widen hC.1 hC.2 ?_
              exact r_ireturn rfl (by rw [← Sat_eq h]; exact ⟨rfl, rfl⟩) dX10_knowers_76
            · have h := Sat_pos c52 h
              refine r_aload_n dX10_knowers_55 0 rfl ?_
              obtain ⟨x56, e56, h⟩ := Sat_bind h
              refine r_getP fk_X10_93 rfl e56 dX10_knowers_56 ?_
              refine r_iload_n dX10_knowers_59 1 rfl ?_
              refine r_iload_n dX10_knowers_60 2 rfl ?_
              obtain ⟨x61, e61, h⟩ := Sat_bind h
              have hN := nz_call (t_X1_surelyKnowing e61) hN
              have hC := bud_of hN (by
                obtain ⟨x, h, hx⟩ := id h
                have hk : Gr (x61.2) (x61.2) := Gr.rfl
                refine bud_le (?_ : Gr _ ((fun (q : (Int32 × Mm)) => q.2) x)) (hB x hx)
                have h := Option.some.inj h
                subst h
                exact hk)
              refine r_bV (t := 2) [.int l1, .int l2] [] (m_X1_surelyKnowing x56 l1 l2 x47 e61 (mm_N x61.2 - mm_N x47) (mm_Z x61.2 - mm_Z x47) gr_N gr_Z) ck_X1_surelyKnowing lk_X10_321 in_X1_surelyKnowing se_X1_surelyKnowing (kd_of e61) ⟨rfl, by decide, by decide⟩ rfl rfl (Nat.le_of_ble_eq_true rfl) ⟨Nat.le_of_ble_eq_true rfl, Nat.le_of_ble_eq_true rfl⟩ hC dX10_knowers_61 ?_
              refine r_goto 76 dX10_knowers_64 (by decide) ?_
              refine r_widen hC.1 hC.2 ?_
              exact r_ireturn rfl (by rw [← Sat_eq h]; exact ⟨rfl, rfl⟩) dX10_knowers_76
          · have h := Sat_neg c36 h
            refine r_bipush (v := -2) dX10_knowers_39 (by decide) ?_
            refine r_widen hC.1 hC.2 ?_
            exact r_ireturn rfl (by rw [← Sat_eq h]; exact ⟨rfl, rfl⟩) dX10_knowers_41
      · have h := Sat_pos c22 h
        refine r_bipush (v := -2) dX10_knowers_25 (by decide) ?_
        refine r_widen hC.1 hC.2 ?_
        exact r_ireturn rfl (by rw [← Sat_eq h]; exact ⟨rfl, rfl⟩) dX10_knowers_27
