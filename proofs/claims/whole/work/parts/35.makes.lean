theorem dX1_knowingInAll_0 : decode cX1_knowingInAll 0 = .ok (.aload_n 0, 1) := by decide +kernel
theorem dX1_knowingInAll_1 : decode cX1_knowingInAll 1 = .ok (.iconst 1, 1) := by decide +kernel
theorem dX1_knowingInAll_2 : decode cX1_knowingInAll 2 = .ok (.iload_n 1, 1) := by decide +kernel
theorem dX1_knowingInAll_3 : decode cX1_knowingInAll 3 = .ok (.ishl, 1) := by decide +kernel
theorem dX1_knowingInAll_4 : decode cX1_knowingInAll 4 = .ok (.invokevirtual 119, 3) := by decide +kernel
theorem dX1_knowingInAll_7 : decode cX1_knowingInAll 7 = .ok (.iconst 0, 1) := by decide +kernel
theorem dX1_knowingInAll_8 : decode cX1_knowingInAll 8 = .ok (.istore_n 3, 1) := by decide +kernel
theorem dX1_knowingInAll_9 : decode cX1_knowingInAll 9 = .ok (.iconst 0, 1) := by decide +kernel
theorem dX1_knowingInAll_10 : decode cX1_knowingInAll 10 = .ok (.istore 4, 2) := by decide +kernel
theorem dX1_knowingInAll_12 : decode cX1_knowingInAll 12 = .ok (.iload 4, 2) := by decide +kernel
theorem dX1_knowingInAll_14 : decode cX1_knowingInAll 14 = .ok (.aload_n 0, 1) := by decide +kernel
theorem dX1_knowingInAll_15 : decode cX1_knowingInAll 15 = .ok (.getfield 43, 3) := by decide +kernel
theorem dX1_knowingInAll_18 : decode cX1_knowingInAll 18 = .ok (.if_icmp .ge 23, 3) := by decide +kernel
theorem dX1_knowingInAll_21 : decode cX1_knowingInAll 21 = .ok (.iload_n 3, 1) := by decide +kernel
theorem dX1_knowingInAll_22 : decode cX1_knowingInAll 22 = .ok (.aload_n 0, 1) := by decide +kernel
theorem dX1_knowingInAll_23 : decode cX1_knowingInAll 23 = .ok (.iload_n 1, 1) := by decide +kernel
theorem dX1_knowingInAll_24 : decode cX1_knowingInAll 24 = .ok (.iload 4, 2) := by decide +kernel
theorem dX1_knowingInAll_26 : decode cX1_knowingInAll 26 = .ok (.iload_n 2, 1) := by decide +kernel
theorem dX1_knowingInAll_27 : decode cX1_knowingInAll 27 = .ok (.invokevirtual 152, 3) := by decide +kernel
theorem dX1_knowingInAll_30 : decode cX1_knowingInAll 30 = .ok (.invokestatic 156, 3) := by decide +kernel
theorem dX1_knowingInAll_33 : decode cX1_knowingInAll 33 = .ok (.iadd, 1) := by decide +kernel
theorem dX1_knowingInAll_34 : decode cX1_knowingInAll 34 = .ok (.istore_n 3, 1) := by decide +kernel
theorem dX1_knowingInAll_35 : decode cX1_knowingInAll 35 = .ok (.iinc 4 1, 3) := by decide +kernel
theorem dX1_knowingInAll_38 : decode cX1_knowingInAll 38 = .ok (.goto (-26), 3) := by decide +kernel
theorem dX1_knowingInAll_41 : decode cX1_knowingInAll 41 = .ok (.iload_n 3, 1) := by decide +kernel
theorem dX1_knowingInAll_42 : decode cX1_knowingInAll 42 = .ok (.ireturn, 1) := by decide +kernel
noncomputable def f_X1_knowingInAll_L12 (a0 : Nat) (l1 : Int32) (l2 : Int32) (μ : Mm) (s12 : Int32 × Int32) : Option ((Int32 × Int32) ⊕ (Int32)) :=
  (gf_I 2 9 a0 μ).bind fun x15 => if x15 ≤ s12.2 then some (.inr s12.1) else (f_X1_knowingBehind a0 l1 s12.2 l2 μ).bind fun x27 => (f_J6_bitCount_0f7a4 x27 μ).bind fun x30 => (some (s12.1 + x30)).bind fun v34 => (some (s12.2 + (1 : Int32))).bind fun v35 => some (.inl (v34, v35))
noncomputable def f_X1_knowingInAll (a0 : Nat) (l1 : Int32) (l2 : Int32) (μ : Mm) : Option (Int32 × Mm) :=
  if (mm_K μ a0).1 = 2 then (f_X1_findComings a0 ((1 : Int32) <<< (l1 &&& 31)) μ).bind fun x4 => (whl (f_X1_knowingInAll_L12 a0 l1 l2 x4) ((0 : Int32), (0 : Int32))).bind (fun b12 => some (b12, x4)) else none
abbrev Rn_X1_knowingInAll (G : Gv) (Q : Option Value → Mm → Prop) (mc ms c s : Nat) (pc : Nat) (lv : List (Nat × Value)) (st : List Value) (μ : Mm) : Prop := Rn G RX1 cX1_knowingInAll 5 (some .int) "knowingInAll" (rmd 15 mc ms) (Zm G mc ms Q) c s pc lv st μ
theorem t_X1_knowingInAll {a0 : Nat} {l1 : Int32} {l2 : Int32} {μ : Mm} {x : (Int32 × Mm)} (h : f_X1_knowingInAll a0 l1 l2 μ = some x) : Gr μ ((fun (q : (Int32 × Mm)) => q.2) x) := by
  have hk : Gr μ μ := Gr.rfl
  obtain ⟨_, h⟩ := ite_p h
  obtain ⟨x4, e4, h⟩ := bd h
  have hk := Gr.after (t_X1_findComings e4) hk
  obtain ⟨b12, w12, h⟩ := bd h
  have h := Option.some.inj h
  subst h
  exact hk
set_option maxRecDepth 100000 in
set_option maxHeartbeats 4000000 in
theorem m_X1_knowingInAll {G : Gv} (a0 : Nat) (l1 : Int32) (l2 : Int32) (μ : Mm) {r : (Int32 × Mm)} (hx : f_X1_knowingInAll a0 l1 l2 μ = some r) (mc ms : Nat) (hn : mm_N r.2 ≤ mm_N μ + mc) (hz : mm_Z r.2 ≤ mm_Z μ + ms) : Mt G yX1_knowingInAll cX1_knowingInAll 5 (some .int) 15 mc ms [.ref a0, .int l1, .int l2] μ (fun v μ' => v = some (.int r.1) ∧ μ' = r.2) := by
  have hN : Nz μ μ 0 0 := ⟨rfl, rfl⟩
  have hC : 0 ≤ mc ∧ 0 ≤ ms := ⟨Nat.zero_le _, Nat.zero_le _⟩
  have hB : ∀ x : (Int32 × Mm), x = r → mm_N ((fun (q : (Int32 × Mm)) => q.2) x) ≤ mm_N μ + mc ∧ mm_Z ((fun (q : (Int32 × Mm)) => q.2) x) ≤ mm_Z μ + ms := fun x e => by subst e; exact ⟨hn, hz⟩
  refine Mt.of (by decide) (Nat.le_of_ble_eq_true rfl) ?_
  show Rn_X1_knowingInAll G (fun v μ' => v = some (.int r.1) ∧ μ' = r.2) mc ms 0 0 0 [(0, .ref a0), (1, .int l1), (2, .int l2)] [] μ
  obtain ⟨_, h⟩ := Sat_ifp (show Sat (f_X1_knowingInAll a0 l1 l2 μ) (fun x => x = r) from ⟨_, hx, rfl⟩)
  refine r_aload_n dX1_knowingInAll_0 0 rfl ?_
  refine r_iconst (v := 1) dX1_knowingInAll_1 (by decide) ?_
  refine r_iload_n dX1_knowingInAll_2 1 rfl ?_
  refine r_ishl dX1_knowingInAll_3 ?_
  obtain ⟨x4, e4, h⟩ := Sat_bind h
  have hN := nz_call (t_X1_findComings e4) hN
  have hC := bud_of hN (by
    obtain ⟨x, h, hx⟩ := id h
    have hk : Gr (x4) (x4) := Gr.rfl
    refine bud_le (?_ : Gr _ ((fun (q : (Int32 × Mm)) => q.2) x)) (hB x hx)
    obtain ⟨b12, w12, h⟩ := bd h
    have h := Option.some.inj h
    subst h
    exact hk)
  refine r_bV (t := 2) [.int ((1 : Int32) <<< (l1 &&& 31))] [] (m_X1_findComings a0 ((1 : Int32) <<< (l1 &&& 31)) μ e4 (mm_N x4 - mm_N μ) (mm_Z x4 - mm_Z μ) gr_N gr_Z) ck_X1_findComings lk_X1_119 in_X1_findComings se_X1_findComings (kd_of e4) ⟨rfl, by decide, by decide⟩ rfl rfl (Nat.le_of_ble_eq_true rfl) ⟨Nat.le_of_ble_eq_true rfl, Nat.le_of_ble_eq_true rfl⟩ hC dX1_knowingInAll_4 ?_
  refine r_iconst (v := 0) dX1_knowingInAll_7 (by decide) ?_
  refine r_istore_n (lv' := [(3, .int (0 : Int32)), (0, .ref a0), (1, .int l1), (2, .int l2)]) dX1_knowingInAll_8 rfl (by decide) rfl ?_
  refine r_iconst (v := 0) dX1_knowingInAll_9 (by decide) ?_
  refine r_istore (lv' := [(4, .int (0 : Int32)), (3, .int (0 : Int32)), (0, .ref a0), (1, .int l1), (2, .int l2)]) dX1_knowingInAll_10 (by decide) rfl ?_
  refine r_sub (lv' := [(0, .ref a0), (1, .int l1), (2, .int l2), (3, .int (0 : Int32)), (4, .int (0 : Int32))]) [2, 3, 4, 1, 0] rfl ?_
  refine whl_K (s0 := (((0 : Int32), (0 : Int32)) : Int32 × Int32)) (RR := fun (s12 : Int32 × Int32) => Rn_X1_knowingInAll G (fun v μ' => v = some (.int r.1) ∧ μ' = r.2) mc ms (0 + (mm_N x4 - mm_N μ)) (0 + (mm_Z x4 - mm_Z μ)) 12 [(0, .ref a0), (1, .int l1), (2, .int l2), (3, .int s12.1), (4, .int s12.2)] [] x4) ?_ (Sat_bindK h)
  intro s12 K12 hI12 hX12 h
  refine r_iload dX1_knowingInAll_12 4 rfl ?_
  refine r_aload_n dX1_knowingInAll_14 0 rfl ?_
  obtain ⟨x15, e15, h⟩ := Sat_bind h
  refine r_getI fk_X1_43 rfl e15 dX1_knowingInAll_15 ?_
  refine r_icmp_ge 41 dX1_knowingInAll_18 (by decide) (fun c18 => ?_) (fun c18 => ?_)
  · have h := Sat_pos c18 h
    have h := hX12 _ (Sat_some h)
    refine r_iload_n dX1_knowingInAll_41 3 rfl ?_
    refine r_widen hC.1 hC.2 ?_
    exact r_ireturn rfl (by rw [← Sat_eq h]; exact ⟨rfl, rfl⟩) dX1_knowingInAll_42
  · have h := Sat_neg c18 h
    refine r_iload_n dX1_knowingInAll_21 3 rfl ?_
    refine r_aload_n dX1_knowingInAll_22 0 rfl ?_
    refine r_iload_n dX1_knowingInAll_23 1 rfl ?_
    refine r_iload dX1_knowingInAll_24 4 rfl ?_
    refine r_iload_n dX1_knowingInAll_26 2 rfl ?_
    obtain ⟨x27, e27, h⟩ := Sat_bind h
    refine r_cV (t := 2) [.int l1, .int s12.2, .int l2] [.int s12.1] (m_X1_knowingBehind a0 l1 s12.2 l2 x4 e27) ck_X1_knowingBehind lk_X1_152 in_X1_knowingBehind se_X1_knowingBehind (kd_of e27) ⟨rfl, by decide, by decide⟩ rfl rfl (Nat.le_of_ble_eq_true rfl) ⟨Nat.le_of_ble_eq_true rfl, Nat.le_of_ble_eq_true rfl⟩ hC dX1_knowingInAll_27 ?_
    obtain ⟨x30, e30, h⟩ := Sat_bind h
    refine r_cS [.int x27] [.int s12.1] (m_J6_bitCount_0f7a4 x27 x4 e30) ck_J6_bitCount_0f7a4 lk_X1_156 st_J6_bitCount_0f7a4 rfl rfl (Nat.le_of_ble_eq_true rfl) ⟨Nat.le_of_ble_eq_true rfl, Nat.le_of_ble_eq_true rfl⟩ hC dX1_knowingInAll_30 ?_
    refine r_iadd dX1_knowingInAll_33 ?_
    obtain ⟨v34, e34, h⟩ := Sat_bind h
    refine r_topi (Option.some.inj e34) ?_
    refine r_istore_n (lv' := [(3, .int v34), (0, .ref a0), (1, .int l1), (2, .int l2), (4, .int s12.2)]) dX1_knowingInAll_34 rfl (by decide) rfl ?_
    obtain ⟨v35, e35, h⟩ := Sat_bind h
    refine r_iinc (j := 4) (v := v35) (lv' := [(4, .int v35), (3, .int v34), (0, .ref a0), (1, .int l1), (2, .int l2)]) dX1_knowingInAll_35 rfl (iinc_v e35 (by decide)) (by decide) rfl ?_
    refine r_goto 12 dX1_knowingInAll_38 (by decide) ?_
    exact r_sub [2, 3, 4, 1, 0] rfl (hI12 _ (Sat_some h))
theorem dX1_turningsOfAll_0 : decode cX1_turningsOfAll 0 = .ok (.aload_n 0, 1) := by decide +kernel
theorem dX1_turningsOfAll_1 : decode cX1_turningsOfAll 1 = .ok (.iconst 1, 1) := by decide +kernel
theorem dX1_turningsOfAll_2 : decode cX1_turningsOfAll 2 = .ok (.iload_n 1, 1) := by decide +kernel
theorem dX1_turningsOfAll_3 : decode cX1_turningsOfAll 3 = .ok (.ishl, 1) := by decide +kernel
theorem dX1_turningsOfAll_4 : decode cX1_turningsOfAll 4 = .ok (.invokevirtual 119, 3) := by decide +kernel
theorem dX1_turningsOfAll_7 : decode cX1_turningsOfAll 7 = .ok (.iconst 0, 1) := by decide +kernel
theorem dX1_turningsOfAll_8 : decode cX1_turningsOfAll 8 = .ok (.istore_n 3, 1) := by decide +kernel
theorem dX1_turningsOfAll_9 : decode cX1_turningsOfAll 9 = .ok (.iconst 0, 1) := by decide +kernel
theorem dX1_turningsOfAll_10 : decode cX1_turningsOfAll 10 = .ok (.istore 4, 2) := by decide +kernel
theorem dX1_turningsOfAll_12 : decode cX1_turningsOfAll 12 = .ok (.iload 4, 2) := by decide +kernel
theorem dX1_turningsOfAll_14 : decode cX1_turningsOfAll 14 = .ok (.aload_n 0, 1) := by decide +kernel
theorem dX1_turningsOfAll_15 : decode cX1_turningsOfAll 15 = .ok (.getfield 43, 3) := by decide +kernel
theorem dX1_turningsOfAll_18 : decode cX1_turningsOfAll 18 = .ok (.if_icmp .ge 23, 3) := by decide +kernel
theorem dX1_turningsOfAll_21 : decode cX1_turningsOfAll 21 = .ok (.aload_n 0, 1) := by decide +kernel
theorem dX1_turningsOfAll_22 : decode cX1_turningsOfAll 22 = .ok (.iload_n 1, 1) := by decide +kernel
theorem dX1_turningsOfAll_23 : decode cX1_turningsOfAll 23 = .ok (.iload 4, 2) := by decide +kernel
theorem dX1_turningsOfAll_25 : decode cX1_turningsOfAll 25 = .ok (.invokevirtual 161, 3) := by decide +kernel
theorem dX1_turningsOfAll_28 : decode cX1_turningsOfAll 28 = .ok (.iload_n 2, 1) := by decide +kernel
theorem dX1_turningsOfAll_29 : decode cX1_turningsOfAll 29 = .ok (.if_icmp .gt 6, 3) := by decide +kernel
theorem dX1_turningsOfAll_32 : decode cX1_turningsOfAll 32 = .ok (.iinc 3 1, 3) := by decide +kernel
theorem dX1_turningsOfAll_35 : decode cX1_turningsOfAll 35 = .ok (.iinc 4 1, 3) := by decide +kernel
theorem dX1_turningsOfAll_38 : decode cX1_turningsOfAll 38 = .ok (.goto (-26), 3) := by decide +kernel
theorem dX1_turningsOfAll_41 : decode cX1_turningsOfAll 41 = .ok (.iload_n 3, 1) := by decide +kernel
theorem dX1_turningsOfAll_42 : decode cX1_turningsOfAll 42 = .ok (.ireturn, 1) := by decide +kernel
noncomputable def f_X1_turningsOfAll_J35 (a0 : Nat) (l1 : Int32) (l2 : Int32) (l3 : Int32) (l4 : Int32) (μ : Mm) : Option ((Int32 × Int32) ⊕ (Int32)) :=
  (some (l4 + (1 : Int32))).bind fun v35 => some (.inl (l3, v35))
noncomputable def f_X1_turningsOfAll_L12 (a0 : Nat) (l1 : Int32) (l2 : Int32) (μ : Mm) (s12 : Int32 × Int32) : Option ((Int32 × Int32) ⊕ (Int32)) :=
  (gf_I 2 9 a0 μ).bind fun x15 => if x15 ≤ s12.2 then some (.inr s12.1) else (f_X1_dayOfAll a0 l1 s12.2 μ).bind fun x25 => if l2 < x25 then f_X1_turningsOfAll_J35 a0 l1 l2 s12.1 s12.2 μ else (some (s12.1 + (1 : Int32))).bind fun v32 => f_X1_turningsOfAll_J35 a0 l1 l2 v32 s12.2 μ
noncomputable def f_X1_turningsOfAll (a0 : Nat) (l1 : Int32) (l2 : Int32) (μ : Mm) : Option (Int32 × Mm) :=
  if (mm_K μ a0).1 = 2 then (f_X1_findComings a0 ((1 : Int32) <<< (l1 &&& 31)) μ).bind fun x4 => (whl (f_X1_turningsOfAll_L12 a0 l1 l2 x4) ((0 : Int32), (0 : Int32))).bind (fun b12 => some (b12, x4)) else none
abbrev Rn_X1_turningsOfAll (G : Gv) (Q : Option Value → Mm → Prop) (mc ms c s : Nat) (pc : Nat) (lv : List (Nat × Value)) (st : List Value) (μ : Mm) : Prop := Rn G RX1 cX1_turningsOfAll 5 (some .int) "turningsOfAll" (rmd 15 mc ms) (Zm G mc ms Q) c s pc lv st μ
theorem t_X1_turningsOfAll {a0 : Nat} {l1 : Int32} {l2 : Int32} {μ : Mm} {x : (Int32 × Mm)} (h : f_X1_turningsOfAll a0 l1 l2 μ = some x) : Gr μ ((fun (q : (Int32 × Mm)) => q.2) x) := by
  have hk : Gr μ μ := Gr.rfl
  obtain ⟨_, h⟩ := ite_p h
  obtain ⟨x4, e4, h⟩ := bd h
  have hk := Gr.after (t_X1_findComings e4) hk
  obtain ⟨b12, w12, h⟩ := bd h
  have h := Option.some.inj h
  subst h
  exact hk
set_option maxRecDepth 100000 in
set_option maxHeartbeats 4000000 in
theorem m_X1_turningsOfAll {G : Gv} (a0 : Nat) (l1 : Int32) (l2 : Int32) (μ : Mm) {r : (Int32 × Mm)} (hx : f_X1_turningsOfAll a0 l1 l2 μ = some r) (mc ms : Nat) (hn : mm_N r.2 ≤ mm_N μ + mc) (hz : mm_Z r.2 ≤ mm_Z μ + ms) : Mt G yX1_turningsOfAll cX1_turningsOfAll 5 (some .int) 15 mc ms [.ref a0, .int l1, .int l2] μ (fun v μ' => v = some (.int r.1) ∧ μ' = r.2) := by
  have hN : Nz μ μ 0 0 := ⟨rfl, rfl⟩
  have hC : 0 ≤ mc ∧ 0 ≤ ms := ⟨Nat.zero_le _, Nat.zero_le _⟩
  have hB : ∀ x : (Int32 × Mm), x = r → mm_N ((fun (q : (Int32 × Mm)) => q.2) x) ≤ mm_N μ + mc ∧ mm_Z ((fun (q : (Int32 × Mm)) => q.2) x) ≤ mm_Z μ + ms := fun x e => by subst e; exact ⟨hn, hz⟩
  refine Mt.of (by decide) (Nat.le_of_ble_eq_true rfl) ?_
  show Rn_X1_turningsOfAll G (fun v μ' => v = some (.int r.1) ∧ μ' = r.2) mc ms 0 0 0 [(0, .ref a0), (1, .int l1), (2, .int l2)] [] μ
  obtain ⟨_, h⟩ := Sat_ifp (show Sat (f_X1_turningsOfAll a0 l1 l2 μ) (fun x => x = r) from ⟨_, hx, rfl⟩)
  refine r_aload_n dX1_turningsOfAll_0 0 rfl ?_
  refine r_iconst (v := 1) dX1_turningsOfAll_1 (by decide) ?_
  refine r_iload_n dX1_turningsOfAll_2 1 rfl ?_
  refine r_ishl dX1_turningsOfAll_3 ?_
  obtain ⟨x4, e4, h⟩ := Sat_bind h
  have hN := nz_call (t_X1_findComings e4) hN
  have hC := bud_of hN (by
    obtain ⟨x, h, hx⟩ := id h
    have hk : Gr (x4) (x4) := Gr.rfl
    refine bud_le (?_ : Gr _ ((fun (q : (Int32 × Mm)) => q.2) x)) (hB x hx)
    obtain ⟨b12, w12, h⟩ := bd h
    have h := Option.some.inj h
    subst h
    exact hk)
  refine r_bV (t := 2) [.int ((1 : Int32) <<< (l1 &&& 31))] [] (m_X1_findComings a0 ((1 : Int32) <<< (l1 &&& 31)) μ e4 (mm_N x4 - mm_N μ) (mm_Z x4 - mm_Z μ) gr_N gr_Z) ck_X1_findComings lk_X1_119 in_X1_findComings se_X1_findComings (kd_of e4) ⟨rfl, by decide, by decide⟩ rfl rfl (Nat.le_of_ble_eq_true rfl) ⟨Nat.le_of_ble_eq_true rfl, Nat.le_of_ble_eq_true rfl⟩ hC dX1_turningsOfAll_4 ?_
  refine r_iconst (v := 0) dX1_turningsOfAll_7 (by decide) ?_
  refine r_istore_n (lv' := [(3, .int (0 : Int32)), (0, .ref a0), (1, .int l1), (2, .int l2)]) dX1_turningsOfAll_8 rfl (by decide) rfl ?_
  refine r_iconst (v := 0) dX1_turningsOfAll_9 (by decide) ?_
  refine r_istore (lv' := [(4, .int (0 : Int32)), (3, .int (0 : Int32)), (0, .ref a0), (1, .int l1), (2, .int l2)]) dX1_turningsOfAll_10 (by decide) rfl ?_
  refine r_sub (lv' := [(0, .ref a0), (1, .int l1), (2, .int l2), (3, .int (0 : Int32)), (4, .int (0 : Int32))]) [2, 3, 4, 1, 0] rfl ?_
  refine whl_K (s0 := (((0 : Int32), (0 : Int32)) : Int32 × Int32)) (RR := fun (s12 : Int32 × Int32) => Rn_X1_turningsOfAll G (fun v μ' => v = some (.int r.1) ∧ μ' = r.2) mc ms (0 + (mm_N x4 - mm_N μ)) (0 + (mm_Z x4 - mm_Z μ)) 12 [(0, .ref a0), (1, .int l1), (2, .int l2), (3, .int s12.1), (4, .int s12.2)] [] x4) ?_ (Sat_bindK h)
  intro s12 K12 hI12 hX12 h
  have J35 : ∀ (l3_35 : Int32) (l4_35 : Int32), Sat (f_X1_turningsOfAll_J35 a0 l1 l2 l3_35 l4_35 x4) K12 → Rn_X1_turningsOfAll G (fun v μ' => v = some (.int r.1) ∧ μ' = r.2) mc ms (0 + (mm_N x4 - mm_N μ)) (0 + (mm_Z x4 - mm_Z μ)) 35 [(0, .ref a0), (1, .int l1), (2, .int l2), (3, .int l3_35), (4, .int l4_35)] [] x4 := by
    intro l3_35 l4_35 h
    obtain ⟨v35, e35, h⟩ := Sat_bind h
    refine r_iinc (j := 4) (v := v35) (lv' := [(4, .int v35), (0, .ref a0), (1, .int l1), (2, .int l2), (3, .int l3_35)]) dX1_turningsOfAll_35 rfl (iinc_v e35 (by decide)) (by decide) rfl ?_
    refine r_goto 12 dX1_turningsOfAll_38 (by decide) ?_
    exact r_sub [1, 2, 3, 4, 0] rfl (hI12 _ (Sat_some h))
  refine r_iload dX1_turningsOfAll_12 4 rfl ?_
  refine r_aload_n dX1_turningsOfAll_14 0 rfl ?_
  obtain ⟨x15, e15, h⟩ := Sat_bind h
  refine r_getI fk_X1_43 rfl e15 dX1_turningsOfAll_15 ?_
  refine r_icmp_ge 41 dX1_turningsOfAll_18 (by decide) (fun c18 => ?_) (fun c18 => ?_)
  · have h := Sat_pos c18 h
    have h := hX12 _ (Sat_some h)
    refine r_iload_n dX1_turningsOfAll_41 3 rfl ?_
    refine r_widen hC.1 hC.2 ?_
    exact r_ireturn rfl (by rw [← Sat_eq h]; exact ⟨rfl, rfl⟩) dX1_turningsOfAll_42
  · have h := Sat_neg c18 h
    refine r_aload_n dX1_turningsOfAll_21 0 rfl ?_
    refine r_iload_n dX1_turningsOfAll_22 1 rfl ?_
    refine r_iload dX1_turningsOfAll_23 4 rfl ?_
    obtain ⟨x25, e25, h⟩ := Sat_bind h
    refine r_cV (t := 2) [.int l1, .int s12.2] [] (m_X1_dayOfAll a0 l1 s12.2 x4 e25) ck_X1_dayOfAll lk_X1_161 in_X1_dayOfAll se_X1_dayOfAll (kd_of e25) ⟨rfl, by decide, by decide⟩ rfl rfl (Nat.le_of_ble_eq_true rfl) ⟨Nat.le_of_ble_eq_true rfl, Nat.le_of_ble_eq_true rfl⟩ hC dX1_turningsOfAll_25 ?_
    refine r_iload_n dX1_turningsOfAll_28 2 rfl ?_
    refine r_icmp_gt 35 dX1_turningsOfAll_29 (by decide) (fun c29 => ?_) (fun c29 => ?_)
    · have h := Sat_pos c29 h
      exact r_sub [0, 1, 2, 3, 4] rfl (J35 s12.1 s12.2 h)
    · have h := Sat_neg c29 h
      obtain ⟨v32, e32, h⟩ := Sat_bind h
      refine r_iinc (j := 3) (v := v32) (lv' := [(3, .int v32), (0, .ref a0), (1, .int l1), (2, .int l2), (4, .int s12.2)]) dX1_turningsOfAll_32 rfl (iinc_v e32 (by decide)) (by decide) rfl ?_
      exact r_sub [1, 2, 3, 0, 4] rfl (J35 v32 s12.2 h)
theorem dX10_lot_0 : decode cX10_lot 0 = .ok (.aload_n 0, 1) := by decide +kernel
theorem dX10_lot_1 : decode cX10_lot 1 = .ok (.getfield 63, 3) := by decide +kernel
theorem dX10_lot_4 : decode cX10_lot 4 = .ok (.iload_n 1, 1) := by decide +kernel
theorem dX10_lot_5 : decode cX10_lot 5 = .ok (.invokevirtual 188, 3) := by decide +kernel
theorem dX10_lot_8 : decode cX10_lot 8 = .ok (.ifCond .eq 19, 3) := by decide +kernel
theorem dX10_lot_11 : decode cX10_lot 11 = .ok (.iload_n 2, 1) := by decide +kernel
theorem dX10_lot_12 : decode cX10_lot 12 = .ok (.invokestatic 214, 3) := by decide +kernel
theorem dX10_lot_15 : decode cX10_lot 15 = .ok (.ifCond .eq 12, 3) := by decide +kernel
theorem dX10_lot_18 : decode cX10_lot 18 = .ok (.iload_n 3, 1) := by decide +kernel
theorem dX10_lot_19 : decode cX10_lot 19 = .ok (.ifCond .lt 8, 3) := by decide +kernel
theorem dX10_lot_22 : decode cX10_lot 22 = .ok (.iload_n 3, 1) := by decide +kernel
theorem dX10_lot_23 : decode cX10_lot 23 = .ok (.iconst 1, 1) := by decide +kernel
theorem dX10_lot_24 : decode cX10_lot 24 = .ok (.if_icmp .le 6, 3) := by decide +kernel
theorem dX10_lot_27 : decode cX10_lot 27 = .ok (.bipush (-2), 2) := by decide +kernel
theorem dX10_lot_29 : decode cX10_lot 29 = .ok (.ireturn, 1) := by decide +kernel
theorem dX10_lot_30 : decode cX10_lot 30 = .ok (.iload_n 3, 1) := by decide +kernel
theorem dX10_lot_31 : decode cX10_lot 31 = .ok (.ifCond .ne 15, 3) := by decide +kernel
theorem dX10_lot_34 : decode cX10_lot 34 = .ok (.aload_n 0, 1) := by decide +kernel
theorem dX10_lot_35 : decode cX10_lot 35 = .ok (.getfield 93, 3) := by decide +kernel
theorem dX10_lot_38 : decode cX10_lot 38 = .ok (.iload_n 1, 1) := by decide +kernel
theorem dX10_lot_39 : decode cX10_lot 39 = .ok (.iload_n 2, 1) := by decide +kernel
theorem dX10_lot_40 : decode cX10_lot 40 = .ok (.invokevirtual 383, 3) := by decide +kernel
theorem dX10_lot_43 : decode cX10_lot 43 = .ok (.goto 12, 3) := by decide +kernel
theorem dX10_lot_46 : decode cX10_lot 46 = .ok (.aload_n 0, 1) := by decide +kernel
theorem dX10_lot_47 : decode cX10_lot 47 = .ok (.getfield 93, 3) := by decide +kernel
theorem dX10_lot_50 : decode cX10_lot 50 = .ok (.iload_n 1, 1) := by decide +kernel
theorem dX10_lot_51 : decode cX10_lot 51 = .ok (.iload_n 2, 1) := by decide +kernel
theorem dX10_lot_52 : decode cX10_lot 52 = .ok (.invokevirtual 386, 3) := by decide +kernel
theorem dX10_lot_55 : decode cX10_lot 55 = .ok (.istore 5, 2) := by decide +kernel
theorem dX10_lot_57 : decode cX10_lot 57 = .ok (.aload_n 0, 1) := by decide +kernel
theorem dX10_lot_58 : decode cX10_lot 58 = .ok (.iload 5, 2) := by decide +kernel
theorem dX10_lot_60 : decode cX10_lot 60 = .ok (.iload 4, 2) := by decide +kernel
theorem dX10_lot_62 : decode cX10_lot 62 = .ok (.invokevirtual 389, 3) := by decide +kernel
theorem dX10_lot_65 : decode cX10_lot 65 = .ok (.ireturn, 1) := by decide +kernel
noncomputable def f_X10_lot_J55 (a0 : Nat) (l4 : Int32) (k0 : Int32) (μ : Mm) : Option (Int32 × Mm) :=
  (f_X10_inLeastNumbers a0 k0 l4 μ).bind fun x62 => some (x62, μ)
noncomputable def f_X10_lot (a0 : Nat) (l1 : Int32) (l2 : Int32) (l3 : Int32) (l4 : Int32) (μ : Mm) : Option (Int32 × Mm) :=
  if (mm_K μ a0).1 = 11 then (gf_P 11 13 a0 μ).bind fun x1 => (f_X7_isFact x1 l1 μ).bind fun x5 => if x5 = 0 then some ((-2 : Int32), μ) else (f_X10_isDay l2 μ).bind fun x12 => if x12 = 0 then some ((-2 : Int32), μ) else if l3 < 0 then some ((-2 : Int32), μ) else if l3 ≤ (1 : Int32) then if l3 = 0 then (gf_P 11 5 a0 μ).bind fun x35 => (f_X1_knowingInAll x35 l1 l2 μ).bind fun x40 => f_X10_lot_J55 a0 l4 x40.1 x40.2 else (gf_P 11 5 a0 μ).bind fun x47 => (f_X1_turningsOfAll x47 l1 l2 μ).bind fun x52 => f_X10_lot_J55 a0 l4 x52.1 x52.2 else some ((-2 : Int32), μ) else none
abbrev Rn_X10_lot (G : Gv) (Q : Option Value → Mm → Prop) (mc ms c s : Nat) (pc : Nat) (lv : List (Nat × Value)) (st : List Value) (μ : Mm) : Prop := Rn G RX10 cX10_lot 6 (some .int) "lot" (rmd 16 mc ms) (Zm G mc ms Q) c s pc lv st μ
theorem t_X10_lot_J55 {a0 : Nat} {l4 : Int32} {k0 : Int32} {μ : Mm} {x : (Int32 × Mm)} (h : f_X10_lot_J55 a0 l4 k0 μ = some x) : Gr μ ((fun (q : (Int32 × Mm)) => q.2) x) := by
  have hk : Gr μ μ := Gr.rfl
  obtain ⟨x62, e62, h⟩ := bd h
  have h := Option.some.inj h
  subst h
  exact hk
theorem t_X10_lot {a0 : Nat} {l1 : Int32} {l2 : Int32} {l3 : Int32} {l4 : Int32} {μ : Mm} {x : (Int32 × Mm)} (h : f_X10_lot a0 l1 l2 l3 l4 μ = some x) : Gr μ ((fun (q : (Int32 × Mm)) => q.2) x) := by
  have hk : Gr μ μ := Gr.rfl
  obtain ⟨_, h⟩ := ite_p h
  obtain ⟨x1, e1, h⟩ := bd h
  obtain ⟨x5, e5, h⟩ := bd h
  rcases ite_e h with ⟨_, h⟩ | ⟨_, h⟩
  · have h := Option.some.inj h
    subst h
    exact hk
  · obtain ⟨x12, e12, h⟩ := bd h
    rcases ite_e h with ⟨_, h⟩ | ⟨_, h⟩
    · have h := Option.some.inj h
      subst h
      exact hk
    · rcases ite_e h with ⟨_, h⟩ | ⟨_, h⟩
      · have h := Option.some.inj h
        subst h
        exact hk
      · rcases ite_e h with ⟨_, h⟩ | ⟨_, h⟩
        · rcases ite_e h with ⟨_, h⟩ | ⟨_, h⟩
          · obtain ⟨x35, e35, h⟩ := bd h
            obtain ⟨x40, e40, h⟩ := bd h
            have hk := Gr.after (t_X1_knowingInAll e40) hk
            exact Gr.after (t_X10_lot_J55 h) hk
          · obtain ⟨x47, e47, h⟩ := bd h
            obtain ⟨x52, e52, h⟩ := bd h
            have hk := Gr.after (t_X1_turningsOfAll e52) hk
            exact Gr.after (t_X10_lot_J55 h) hk
        · have h := Option.some.inj h
          subst h
          exact hk
set_option maxRecDepth 100000 in
set_option maxHeartbeats 4000000 in
theorem m_X10_lot {G : Gv} (a0 : Nat) (l1 : Int32) (l2 : Int32) (l3 : Int32) (l4 : Int32) (μ : Mm) {r : (Int32 × Mm)} (hx : f_X10_lot a0 l1 l2 l3 l4 μ = some r) (mc ms : Nat) (hn : mm_N r.2 ≤ mm_N μ + mc) (hz : mm_Z r.2 ≤ mm_Z μ + ms) : Mt G yX10_lot cX10_lot 6 (some .int) 16 mc ms [.ref a0, .int l1, .int l2, .int l3, .int l4] μ (fun v μ' => v = some (.int r.1) ∧ μ' = r.2) := by
  have hN : Nz μ μ 0 0 := ⟨rfl, rfl⟩
  have hC : 0 ≤ mc ∧ 0 ≤ ms := ⟨Nat.zero_le _, Nat.zero_le _⟩
  have hB : ∀ x : (Int32 × Mm), x = r → mm_N ((fun (q : (Int32 × Mm)) => q.2) x) ≤ mm_N μ + mc ∧ mm_Z ((fun (q : (Int32 × Mm)) => q.2) x) ≤ mm_Z μ + ms := fun x e => by subst e; exact ⟨hn, hz⟩
  refine Mt.of (by decide) (Nat.le_of_ble_eq_true rfl) ?_
  show Rn_X10_lot G (fun v μ' => v = some (.int r.1) ∧ μ' = r.2) mc ms 0 0 0 [(0, .ref a0), (1, .int l1), (2, .int l2), (3, .int l3), (4, .int l4)] [] μ
  obtain ⟨_, h⟩ := Sat_ifp (show Sat (f_X10_lot a0 l1 l2 l3 l4 μ) (fun x => x = r) from ⟨_, hx, rfl⟩)
  have J55 : ∀ (a0_55 : Nat) (l4_55 : Int32) (k0_55 : Int32) (μ_55 : Mm), ∀ (c55 z55 : Nat), Nz μ μ_55 c55 z55 → c55 ≤ mc ∧ z55 ≤ ms → Sat (f_X10_lot_J55 a0_55 l4_55 k0_55 μ_55) (fun x => x = r) → Rn_X10_lot G (fun v μ' => v = some (.int r.1) ∧ μ' = r.2) mc ms c55 z55 55 [(0, .ref a0_55), (4, .int l4_55)] [.int k0_55] μ_55 := by
    intro a0_55 l4_55 k0_55 μ_55 c55 z55 hN hC h
    refine r_istore (lv' := [(5, .int k0_55), (0, .ref a0_55), (4, .int l4_55)]) dX10_lot_55 (by decide) rfl ?_
    refine r_aload_n dX10_lot_57 1 rfl ?_
    refine r_iload dX10_lot_58 0 rfl ?_
    refine r_iload dX10_lot_60 2 rfl ?_
    obtain ⟨x62, e62, h⟩ := Sat_bind h
    refine r_cV (t := 11) [.int k0_55, .int l4_55] [] (m_X10_inLeastNumbers a0_55 k0_55 l4_55 μ_55 e62) ck_X10_inLeastNumbers lk_X10_389 in_X10_inLeastNumbers se_X10_inLeastNumbers (kd_of e62) ⟨rfl, by decide, by decide⟩ rfl rfl (Nat.le_of_ble_eq_true rfl) ⟨Nat.le_of_ble_eq_true rfl, Nat.le_of_ble_eq_true rfl⟩ hC dX10_lot_62 ?_
    refine r_widen hC.1 hC.2 ?_
    exact r_ireturn rfl (by rw [← Sat_eq h]; exact ⟨rfl, rfl⟩) dX10_lot_65
  refine r_aload_n dX10_lot_0 0 rfl ?_
  obtain ⟨x1, e1, h⟩ := Sat_bind h
  refine r_getP fk_X10_63 rfl e1 dX10_lot_1 ?_
  refine r_iload_n dX10_lot_4 1 rfl ?_
  obtain ⟨x5, e5, h⟩ := Sat_bind h
  refine r_cV (t := 8) [.int l1] [] (m_X7_isFact x1 l1 μ e5) ck_X7_isFact lk_X10_188 in_X7_isFact se_X7_isFact (kd_of e5) ⟨rfl, by decide, by decide⟩ rfl rfl (Nat.le_of_ble_eq_true rfl) ⟨Nat.le_of_ble_eq_true rfl, Nat.le_of_ble_eq_true rfl⟩ hC dX10_lot_5 ?_
  refine r_if_eq 27 dX10_lot_8 (by decide) (fun c8 => ?_) (fun c8 => ?_)
  · have h := Sat_pos c8 h
    refine r_bipush (v := -2) dX10_lot_27 (by decide) ?_
    refine r_widen hC.1 hC.2 ?_
    exact r_ireturn rfl (by rw [← Sat_eq h]; exact ⟨rfl, rfl⟩) dX10_lot_29
  · have h := Sat_neg c8 h
    refine r_iload_n dX10_lot_11 2 rfl ?_
    obtain ⟨x12, e12, h⟩ := Sat_bind h
    refine r_cS [.int l2] [] (m_X10_isDay l2 μ e12) ck_X10_isDay lk_X10_214 st_X10_isDay rfl rfl (Nat.le_of_ble_eq_true rfl) ⟨Nat.le_of_ble_eq_true rfl, Nat.le_of_ble_eq_true rfl⟩ hC dX10_lot_12 ?_
    refine r_if_eq 27 dX10_lot_15 (by decide) (fun c15 => ?_) (fun c15 => ?_)
    · have h := Sat_pos c15 h
      refine r_bipush (v := -2) dX10_lot_27 (by decide) ?_
      refine r_widen hC.1 hC.2 ?_
      exact r_ireturn rfl (by rw [← Sat_eq h]; exact ⟨rfl, rfl⟩) dX10_lot_29
    · have h := Sat_neg c15 h
      refine r_iload_n dX10_lot_18 3 rfl ?_
      refine r_if_lt 27 dX10_lot_19 (by decide) (fun c19 => ?_) (fun c19 => ?_)
      · have h := Sat_pos c19 h
        refine r_bipush (v := -2) dX10_lot_27 (by decide) ?_
        refine r_widen hC.1 hC.2 ?_
        exact r_ireturn rfl (by rw [← Sat_eq h]; exact ⟨rfl, rfl⟩) dX10_lot_29
      · have h := Sat_neg c19 h
        refine r_iload_n dX10_lot_22 3 rfl ?_
        refine r_iconst (v := 1) dX10_lot_23 (by decide) ?_
        refine r_icmp_le 30 dX10_lot_24 (by decide) (fun c24 => ?_) (fun c24 => ?_)
        · have h := Sat_pos c24 h
          refine r_iload_n dX10_lot_30 3 rfl ?_
          refine r_if_ne 46 dX10_lot_31 (by decide) (fun c31 => ?_) (fun c31 => ?_)
          · have h := Sat_neg c31 h
            refine r_aload_n dX10_lot_46 0 rfl ?_
            obtain ⟨x47, e47, h⟩ := Sat_bind h
            refine r_getP fk_X10_93 rfl e47 dX10_lot_47 ?_
            refine r_iload_n dX10_lot_50 1 rfl ?_
            refine r_iload_n dX10_lot_51 2 rfl ?_
            obtain ⟨x52, e52, h⟩ := Sat_bind h
            have hN := nz_call (t_X1_turningsOfAll e52) hN
            have hC := bud_of hN (by
              obtain ⟨x, h, hx⟩ := id h
              have hk : Gr (x52.2) (x52.2) := Gr.rfl
              refine bud_le (?_ : Gr _ ((fun (q : (Int32 × Mm)) => q.2) x)) (hB x hx)
              exact Gr.after (t_X10_lot_J55 h) hk)
            refine r_bV (t := 2) [.int l1, .int l2] [] (m_X1_turningsOfAll x47 l1 l2 μ e52 (mm_N x52.2 - mm_N μ) (mm_Z x52.2 - mm_Z μ) gr_N gr_Z) ck_X1_turningsOfAll lk_X10_386 in_X1_turningsOfAll se_X1_turningsOfAll (kd_of e52) ⟨rfl, by decide, by decide⟩ rfl rfl (Nat.le_of_ble_eq_true rfl) ⟨Nat.le_of_ble_eq_true rfl, Nat.le_of_ble_eq_true rfl⟩ hC dX10_lot_52 ?_
            exact r_sub [0, 4] rfl (J55 a0 l4 x52.1 x52.2 (0 + (mm_N x52.2 - mm_N μ)) (0 + (mm_Z x52.2 - mm_Z μ)) hN hC h)
          · have h := Sat_pos c31 h
            refine r_aload_n dX10_lot_34 0 rfl ?_
            obtain ⟨x35, e35, h⟩ := Sat_bind h
            refine r_getP fk_X10_93 rfl e35 dX10_lot_35 ?_
            refine r_iload_n dX10_lot_38 1 rfl ?_
            refine r_iload_n dX10_lot_39 2 rfl ?_
            obtain ⟨x40, e40, h⟩ := Sat_bind h
            have hN := nz_call (t_X1_knowingInAll e40) hN
            have hC := bud_of hN (by
              obtain ⟨x, h, hx⟩ := id h
              have hk : Gr (x40.2) (x40.2) := Gr.rfl
              refine bud_le (?_ : Gr _ ((fun (q : (Int32 × Mm)) => q.2) x)) (hB x hx)
              exact Gr.after (t_X10_lot_J55 h) hk)
            refine r_bV (t := 2) [.int l1, .int l2] [] (m_X1_knowingInAll x35 l1 l2 μ e40 (mm_N x40.2 - mm_N μ) (mm_Z x40.2 - mm_Z μ) gr_N gr_Z) ck_X1_knowingInAll lk_X10_383 in_X1_knowingInAll se_X1_knowingInAll (kd_of e40) ⟨rfl, by decide, by decide⟩ rfl rfl (Nat.le_of_ble_eq_true rfl) ⟨Nat.le_of_ble_eq_true rfl, Nat.le_of_ble_eq_true rfl⟩ hC dX10_lot_40 ?_
            refine r_goto 55 dX10_lot_43 (by decide) ?_
            exact r_sub [0, 4] rfl (J55 a0 l4 x40.1 x40.2 (0 + (mm_N x40.2 - mm_N μ)) (0 + (mm_Z x40.2 - mm_Z μ)) hN hC h)
        · have h := Sat_neg c24 h
          refine r_bipush (v := -2) dX10_lot_27 (by decide) ?_
          refine r_widen hC.1 hC.2 ?_
          exact r_ireturn rfl (by rw [← Sat_eq h]; exact ⟨rfl, rfl⟩) dX10_lot_29
theorem dX1_firstDaysInAll_0 : decode cX1_firstDaysInAll 0 = .ok (.aload_n 0, 1) := by decide +kernel
theorem dX1_firstDaysInAll_1 : decode cX1_firstDaysInAll 1 = .ok (.iconst 1, 1) := by decide +kernel
theorem dX1_firstDaysInAll_2 : decode cX1_firstDaysInAll 2 = .ok (.iload_n 1, 1) := by decide +kernel
theorem dX1_firstDaysInAll_3 : decode cX1_firstDaysInAll 3 = .ok (.ishl, 1) := by decide +kernel
theorem dX1_firstDaysInAll_4 : decode cX1_firstDaysInAll 4 = .ok (.invokevirtual 119, 3) := by decide +kernel
theorem dX1_firstDaysInAll_7 : decode cX1_firstDaysInAll 7 = .ok (.iconst 0, 1) := by decide +kernel
theorem dX1_firstDaysInAll_8 : decode cX1_firstDaysInAll 8 = .ok (.istore_n 2, 1) := by decide +kernel
theorem dX1_firstDaysInAll_9 : decode cX1_firstDaysInAll 9 = .ok (.iconst 0, 1) := by decide +kernel
theorem dX1_firstDaysInAll_10 : decode cX1_firstDaysInAll 10 = .ok (.istore_n 3, 1) := by decide +kernel
theorem dX1_firstDaysInAll_11 : decode cX1_firstDaysInAll 11 = .ok (.iload_n 3, 1) := by decide +kernel
theorem dX1_firstDaysInAll_12 : decode cX1_firstDaysInAll 12 = .ok (.aload_n 0, 1) := by decide +kernel
theorem dX1_firstDaysInAll_13 : decode cX1_firstDaysInAll 13 = .ok (.getfield 43, 3) := by decide +kernel
theorem dX1_firstDaysInAll_16 : decode cX1_firstDaysInAll 16 = .ok (.if_icmp .ge 18, 3) := by decide +kernel
theorem dX1_firstDaysInAll_19 : decode cX1_firstDaysInAll 19 = .ok (.iload_n 2, 1) := by decide +kernel
theorem dX1_firstDaysInAll_20 : decode cX1_firstDaysInAll 20 = .ok (.aload_n 0, 1) := by decide +kernel
theorem dX1_firstDaysInAll_21 : decode cX1_firstDaysInAll 21 = .ok (.iload_n 1, 1) := by decide +kernel
theorem dX1_firstDaysInAll_22 : decode cX1_firstDaysInAll 22 = .ok (.iload_n 3, 1) := by decide +kernel
theorem dX1_firstDaysInAll_23 : decode cX1_firstDaysInAll 23 = .ok (.invokevirtual 161, 3) := by decide +kernel
theorem dX1_firstDaysInAll_26 : decode cX1_firstDaysInAll 26 = .ok (.iadd, 1) := by decide +kernel
theorem dX1_firstDaysInAll_27 : decode cX1_firstDaysInAll 27 = .ok (.istore_n 2, 1) := by decide +kernel
theorem dX1_firstDaysInAll_28 : decode cX1_firstDaysInAll 28 = .ok (.iinc 3 1, 3) := by decide +kernel
theorem dX1_firstDaysInAll_31 : decode cX1_firstDaysInAll 31 = .ok (.goto (-20), 3) := by decide +kernel
theorem dX1_firstDaysInAll_34 : decode cX1_firstDaysInAll 34 = .ok (.iload_n 2, 1) := by decide +kernel
theorem dX1_firstDaysInAll_35 : decode cX1_firstDaysInAll 35 = .ok (.ireturn, 1) := by decide +kernel
noncomputable def f_X1_firstDaysInAll_L11 (a0 : Nat) (l1 : Int32) (μ : Mm) (s11 : Int32 × Int32) : Option ((Int32 × Int32) ⊕ (Int32)) :=
  (gf_I 2 9 a0 μ).bind fun x13 => if x13 ≤ s11.2 then some (.inr s11.1) else (f_X1_dayOfAll a0 l1 s11.2 μ).bind fun x23 => (some (s11.1 + x23)).bind fun v27 => (some (s11.2 + (1 : Int32))).bind fun v28 => some (.inl (v27, v28))
noncomputable def f_X1_firstDaysInAll (a0 : Nat) (l1 : Int32) (μ : Mm) : Option (Int32 × Mm) :=
  if (mm_K μ a0).1 = 2 then (f_X1_findComings a0 ((1 : Int32) <<< (l1 &&& 31)) μ).bind fun x4 => (whl (f_X1_firstDaysInAll_L11 a0 l1 x4) ((0 : Int32), (0 : Int32))).bind (fun b11 => some (b11, x4)) else none
abbrev Rn_X1_firstDaysInAll (G : Gv) (Q : Option Value → Mm → Prop) (mc ms c s : Nat) (pc : Nat) (lv : List (Nat × Value)) (st : List Value) (μ : Mm) : Prop := Rn G RX1 cX1_firstDaysInAll 4 (some .int) "firstDaysInAll" (rmd 15 mc ms) (Zm G mc ms Q) c s pc lv st μ
theorem t_X1_firstDaysInAll {a0 : Nat} {l1 : Int32} {μ : Mm} {x : (Int32 × Mm)} (h : f_X1_firstDaysInAll a0 l1 μ = some x) : Gr μ ((fun (q : (Int32 × Mm)) => q.2) x) := by
  have hk : Gr μ μ := Gr.rfl
  obtain ⟨_, h⟩ := ite_p h
  obtain ⟨x4, e4, h⟩ := bd h
  have hk := Gr.after (t_X1_findComings e4) hk
  obtain ⟨b11, w11, h⟩ := bd h
  have h := Option.some.inj h
  subst h
  exact hk
set_option maxRecDepth 100000 in
set_option maxHeartbeats 4000000 in
theorem m_X1_firstDaysInAll {G : Gv} (a0 : Nat) (l1 : Int32) (μ : Mm) {r : (Int32 × Mm)} (hx : f_X1_firstDaysInAll a0 l1 μ = some r) (mc ms : Nat) (hn : mm_N r.2 ≤ mm_N μ + mc) (hz : mm_Z r.2 ≤ mm_Z μ + ms) : Mt G yX1_firstDaysInAll cX1_firstDaysInAll 4 (some .int) 15 mc ms [.ref a0, .int l1] μ (fun v μ' => v = some (.int r.1) ∧ μ' = r.2) := by
  have hN : Nz μ μ 0 0 := ⟨rfl, rfl⟩
  have hC : 0 ≤ mc ∧ 0 ≤ ms := ⟨Nat.zero_le _, Nat.zero_le _⟩
  have hB : ∀ x : (Int32 × Mm), x = r → mm_N ((fun (q : (Int32 × Mm)) => q.2) x) ≤ mm_N μ + mc ∧ mm_Z ((fun (q : (Int32 × Mm)) => q.2) x) ≤ mm_Z μ + ms := fun x e => by subst e; exact ⟨hn, hz⟩
  refine Mt.of (by decide) (Nat.le_of_ble_eq_true rfl) ?_
  show Rn_X1_firstDaysInAll G (fun v μ' => v = some (.int r.1) ∧ μ' = r.2) mc ms 0 0 0 [(0, .ref a0), (1, .int l1)] [] μ
  obtain ⟨_, h⟩ := Sat_ifp (show Sat (f_X1_firstDaysInAll a0 l1 μ) (fun x => x = r) from ⟨_, hx, rfl⟩)
  refine r_aload_n dX1_firstDaysInAll_0 0 rfl ?_
  refine r_iconst (v := 1) dX1_firstDaysInAll_1 (by decide) ?_
  refine r_iload_n dX1_firstDaysInAll_2 1 rfl ?_
  refine r_ishl dX1_firstDaysInAll_3 ?_
  obtain ⟨x4, e4, h⟩ := Sat_bind h
  have hN := nz_call (t_X1_findComings e4) hN
  have hC := bud_of hN (by
    obtain ⟨x, h, hx⟩ := id h
    have hk : Gr (x4) (x4) := Gr.rfl
    refine bud_le (?_ : Gr _ ((fun (q : (Int32 × Mm)) => q.2) x)) (hB x hx)
    obtain ⟨b11, w11, h⟩ := bd h
    have h := Option.some.inj h
    subst h
    exact hk)
  refine r_bV (t := 2) [.int ((1 : Int32) <<< (l1 &&& 31))] [] (m_X1_findComings a0 ((1 : Int32) <<< (l1 &&& 31)) μ e4 (mm_N x4 - mm_N μ) (mm_Z x4 - mm_Z μ) gr_N gr_Z) ck_X1_findComings lk_X1_119 in_X1_findComings se_X1_findComings (kd_of e4) ⟨rfl, by decide, by decide⟩ rfl rfl (Nat.le_of_ble_eq_true rfl) ⟨Nat.le_of_ble_eq_true rfl, Nat.le_of_ble_eq_true rfl⟩ hC dX1_firstDaysInAll_4 ?_
  refine r_iconst (v := 0) dX1_firstDaysInAll_7 (by decide) ?_
  refine r_istore_n (lv' := [(2, .int (0 : Int32)), (0, .ref a0), (1, .int l1)]) dX1_firstDaysInAll_8 rfl (by decide) rfl ?_
  refine r_iconst (v := 0) dX1_firstDaysInAll_9 (by decide) ?_
  refine r_istore_n (lv' := [(3, .int (0 : Int32)), (2, .int (0 : Int32)), (0, .ref a0), (1, .int l1)]) dX1_firstDaysInAll_10 rfl (by decide) rfl ?_
  refine r_sub (lv' := [(0, .ref a0), (1, .int l1), (2, .int (0 : Int32)), (3, .int (0 : Int32))]) [2, 3, 1, 0] rfl ?_
  refine whl_K (s0 := (((0 : Int32), (0 : Int32)) : Int32 × Int32)) (RR := fun (s11 : Int32 × Int32) => Rn_X1_firstDaysInAll G (fun v μ' => v = some (.int r.1) ∧ μ' = r.2) mc ms (0 + (mm_N x4 - mm_N μ)) (0 + (mm_Z x4 - mm_Z μ)) 11 [(0, .ref a0), (1, .int l1), (2, .int s11.1), (3, .int s11.2)] [] x4) ?_ (Sat_bindK h)
  intro s11 K11 hI11 hX11 h
  refine r_iload_n dX1_firstDaysInAll_11 3 rfl ?_
  refine r_aload_n dX1_firstDaysInAll_12 0 rfl ?_
  obtain ⟨x13, e13, h⟩ := Sat_bind h
  refine r_getI fk_X1_43 rfl e13 dX1_firstDaysInAll_13 ?_
  refine r_icmp_ge 34 dX1_firstDaysInAll_16 (by decide) (fun c16 => ?_) (fun c16 => ?_)
  · have h := Sat_pos c16 h
    have h := hX11 _ (Sat_some h)
    refine r_iload_n dX1_firstDaysInAll_34 2 rfl ?_
    refine r_widen hC.1 hC.2 ?_
    exact r_ireturn rfl (by rw [← Sat_eq h]; exact ⟨rfl, rfl⟩) dX1_firstDaysInAll_35
  · have h := Sat_neg c16 h
    refine r_iload_n dX1_firstDaysInAll_19 2 rfl ?_
    refine r_aload_n dX1_firstDaysInAll_20 0 rfl ?_
    refine r_iload_n dX1_firstDaysInAll_21 1 rfl ?_
    refine r_iload_n dX1_firstDaysInAll_22 3 rfl ?_
    obtain ⟨x23, e23, h⟩ := Sat_bind h
    refine r_cV (t := 2) [.int l1, .int s11.2] [.int s11.1] (m_X1_dayOfAll a0 l1 s11.2 x4 e23) ck_X1_dayOfAll lk_X1_161 in_X1_dayOfAll se_X1_dayOfAll (kd_of e23) ⟨rfl, by decide, by decide⟩ rfl rfl (Nat.le_of_ble_eq_true rfl) ⟨Nat.le_of_ble_eq_true rfl, Nat.le_of_ble_eq_true rfl⟩ hC dX1_firstDaysInAll_23 ?_
    refine r_iadd dX1_firstDaysInAll_26 ?_
    obtain ⟨v27, e27, h⟩ := Sat_bind h
    refine r_topi (Option.some.inj e27) ?_
    refine r_istore_n (lv' := [(2, .int v27), (0, .ref a0), (1, .int l1), (3, .int s11.2)]) dX1_firstDaysInAll_27 rfl (by decide) rfl ?_
    obtain ⟨v28, e28, h⟩ := Sat_bind h
    refine r_iinc (j := 3) (v := v28) (lv' := [(3, .int v28), (2, .int v27), (0, .ref a0), (1, .int l1)]) dX1_firstDaysInAll_28 rfl (iinc_v e28 (by decide)) (by decide) rfl ?_
    refine r_goto 11 dX1_firstDaysInAll_31 (by decide) ?_
    exact r_sub [2, 3, 1, 0] rfl (hI11 _ (Sat_some h))
theorem dX10_lotDay_0 : decode cX10_lotDay 0 = .ok (.aload_n 0, 1) := by decide +kernel
theorem dX10_lotDay_1 : decode cX10_lotDay 1 = .ok (.getfield 63, 3) := by decide +kernel
theorem dX10_lotDay_4 : decode cX10_lotDay 4 = .ok (.iload_n 1, 1) := by decide +kernel
theorem dX10_lotDay_5 : decode cX10_lotDay 5 = .ok (.invokevirtual 188, 3) := by decide +kernel
theorem dX10_lotDay_8 : decode cX10_lotDay 8 = .ok (.ifCond .ne 6, 3) := by decide +kernel
theorem dX10_lotDay_11 : decode cX10_lotDay 11 = .ok (.bipush (-2), 2) := by decide +kernel
theorem dX10_lotDay_13 : decode cX10_lotDay 13 = .ok (.ireturn, 1) := by decide +kernel
theorem dX10_lotDay_14 : decode cX10_lotDay 14 = .ok (.aload_n 0, 1) := by decide +kernel
theorem dX10_lotDay_15 : decode cX10_lotDay 15 = .ok (.aload_n 0, 1) := by decide +kernel
theorem dX10_lotDay_16 : decode cX10_lotDay 16 = .ok (.getfield 93, 3) := by decide +kernel
theorem dX10_lotDay_19 : decode cX10_lotDay 19 = .ok (.iload_n 1, 1) := by decide +kernel
theorem dX10_lotDay_20 : decode cX10_lotDay 20 = .ok (.invokevirtual 393, 3) := by decide +kernel
theorem dX10_lotDay_23 : decode cX10_lotDay 23 = .ok (.iload_n 2, 1) := by decide +kernel
theorem dX10_lotDay_24 : decode cX10_lotDay 24 = .ok (.invokevirtual 389, 3) := by decide +kernel
theorem dX10_lotDay_27 : decode cX10_lotDay 27 = .ok (.ireturn, 1) := by decide +kernel
noncomputable def f_X10_lotDay (a0 : Nat) (l1 : Int32) (l2 : Int32) (μ : Mm) : Option (Int32 × Mm) :=
  if (mm_K μ a0).1 = 11 then (gf_P 11 13 a0 μ).bind fun x1 => (f_X7_isFact x1 l1 μ).bind fun x5 => if x5 = 0 then some ((-2 : Int32), μ) else (gf_P 11 5 a0 μ).bind fun x16 => (f_X1_firstDaysInAll x16 l1 μ).bind fun x20 => (f_X10_inLeastNumbers a0 x20.1 l2 x20.2).bind fun x24 => some (x24, x20.2) else none
abbrev Rn_X10_lotDay (G : Gv) (Q : Option Value → Mm → Prop) (mc ms c s : Nat) (pc : Nat) (lv : List (Nat × Value)) (st : List Value) (μ : Mm) : Prop := Rn G RX10 cX10_lotDay 3 (some .int) "lotDay" (rmd 16 mc ms) (Zm G mc ms Q) c s pc lv st μ
theorem t_X10_lotDay {a0 : Nat} {l1 : Int32} {l2 : Int32} {μ : Mm} {x : (Int32 × Mm)} (h : f_X10_lotDay a0 l1 l2 μ = some x) : Gr μ ((fun (q : (Int32 × Mm)) => q.2) x) := by
  have hk : Gr μ μ := Gr.rfl
  obtain ⟨_, h⟩ := ite_p h
  obtain ⟨x1, e1, h⟩ := bd h
  obtain ⟨x5, e5, h⟩ := bd h
  rcases ite_e h with ⟨_, h⟩ | ⟨_, h⟩
  · have h := Option.some.inj h
    subst h
    exact hk
  · obtain ⟨x16, e16, h⟩ := bd h
    obtain ⟨x20, e20, h⟩ := bd h
    have hk := Gr.after (t_X1_firstDaysInAll e20) hk
    obtain ⟨x24, e24, h⟩ := bd h
    have h := Option.some.inj h
    subst h
    exact hk
set_option maxRecDepth 100000 in
set_option maxHeartbeats 4000000 in
theorem m_X10_lotDay {G : Gv} (a0 : Nat) (l1 : Int32) (l2 : Int32) (μ : Mm) {r : (Int32 × Mm)} (hx : f_X10_lotDay a0 l1 l2 μ = some r) (mc ms : Nat) (hn : mm_N r.2 ≤ mm_N μ + mc) (hz : mm_Z r.2 ≤ mm_Z μ + ms) : Mt G yX10_lotDay cX10_lotDay 3 (some .int) 16 mc ms [.ref a0, .int l1, .int l2] μ (fun v μ' => v = some (.int r.1) ∧ μ' = r.2) := by
  have hN : Nz μ μ 0 0 := ⟨rfl, rfl⟩
  have hC : 0 ≤ mc ∧ 0 ≤ ms := ⟨Nat.zero_le _, Nat.zero_le _⟩
  have hB : ∀ x : (Int32 × Mm), x = r → mm_N ((fun (q : (Int32 × Mm)) => q.2) x) ≤ mm_N μ + mc ∧ mm_Z ((fun (q : (Int32 × Mm)) => q.2) x) ≤ mm_Z μ + ms := fun x e => by subst e; exact ⟨hn, hz⟩
  refine Mt.of (by decide) (Nat.le_of_ble_eq_true rfl) ?_
  show Rn_X10_lotDay G (fun v μ' => v = some (.int r.1) ∧ μ' = r.2) mc ms 0 0 0 [(0, .ref a0), (1, .int l1), (2, .int l2)] [] μ
  obtain ⟨_, h⟩ := Sat_ifp (show Sat (f_X10_lotDay a0 l1 l2 μ) (fun x => x = r) from ⟨_, hx, rfl⟩)
  refine r_aload_n dX10_lotDay_0 0 rfl ?_
  obtain ⟨x1, e1, h⟩ := Sat_bind h
  refine r_getP fk_X10_63 rfl e1 dX10_lotDay_1 ?_
  refine r_iload_n dX10_lotDay_4 1 rfl ?_
  obtain ⟨x5, e5, h⟩ := Sat_bind h
  refine r_cV (t := 8) [.int l1] [] (m_X7_isFact x1 l1 μ e5) ck_X7_isFact lk_X10_188 in_X7_isFact se_X7_isFact (kd_of e5) ⟨rfl, by decide, by decide⟩ rfl rfl (Nat.le_of_ble_eq_true rfl) ⟨Nat.le_of_ble_eq_true rfl, Nat.le_of_ble_eq_true rfl⟩ hC dX10_lotDay_5 ?_
  refine r_if_ne 14 dX10_lotDay_8 (by decide) (fun c8 => ?_) (fun c8 => ?_)
  · have h := Sat_neg c8 h
    refine r_aload_n dX10_lotDay_14 0 rfl ?_
    refine r_aload_n dX10_lotDay_15 0 rfl ?_
    obtain ⟨x16, e16, h⟩ := Sat_bind h
    refine r_getP fk_X10_93 rfl e16 dX10_lotDay_16 ?_
    refine r_iload_n dX10_lotDay_19 1 rfl ?_
    obtain ⟨x20, e20, h⟩ := Sat_bind h
    have hN := nz_call (t_X1_firstDaysInAll e20) hN
    have hC := bud_of hN (by
      obtain ⟨x, h, hx⟩ := id h
      have hk : Gr (x20.2) (x20.2) := Gr.rfl
      refine bud_le (?_ : Gr _ ((fun (q : (Int32 × Mm)) => q.2) x)) (hB x hx)
      obtain ⟨x24, e24, h⟩ := bd h
      have h := Option.some.inj h
      subst h
      exact hk)
    refine r_bV (t := 2) [.int l1] [.ref a0] (m_X1_firstDaysInAll x16 l1 μ e20 (mm_N x20.2 - mm_N μ) (mm_Z x20.2 - mm_Z μ) gr_N gr_Z) ck_X1_firstDaysInAll lk_X10_393 in_X1_firstDaysInAll se_X1_firstDaysInAll (kd_of e20) ⟨rfl, by decide, by decide⟩ rfl rfl (Nat.le_of_ble_eq_true rfl) ⟨Nat.le_of_ble_eq_true rfl, Nat.le_of_ble_eq_true rfl⟩ hC dX10_lotDay_20 ?_
    refine r_iload_n dX10_lotDay_23 2 rfl ?_
    obtain ⟨x24, e24, h⟩ := Sat_bind h
    refine r_cV (t := 11) [.int x20.1, .int l2] [] (m_X10_inLeastNumbers a0 x20.1 l2 x20.2 e24) ck_X10_inLeastNumbers lk_X10_389 in_X10_inLeastNumbers se_X10_inLeastNumbers (kd_of e24) ⟨rfl, by decide, by decide⟩ rfl rfl (Nat.le_of_ble_eq_true rfl) ⟨Nat.le_of_ble_eq_true rfl, Nat.le_of_ble_eq_true rfl⟩ hC dX10_lotDay_24 ?_
    refine r_widen hC.1 hC.2 ?_
    exact r_ireturn rfl (by rw [← Sat_eq h]; exact ⟨rfl, rfl⟩) dX10_lotDay_27
  · have h := Sat_pos c8 h
    refine r_bipush (v := -2) dX10_lotDay_11 (by decide) ?_
    refine r_widen hC.1 hC.2 ?_
    exact r_ireturn rfl (by rw [← Sat_eq h]; exact ⟨rfl, rfl⟩) dX10_lotDay_13
theorem dX10_sure_0 : decode cX10_sure 0 = .ok (.aload_n 0, 1) := by decide +kernel
theorem dX10_sure_1 : decode cX10_sure 1 = .ok (.getfield 63, 3) := by decide +kernel
theorem dX10_sure_4 : decode cX10_sure 4 = .ok (.iload_n 1, 1) := by decide +kernel
theorem dX10_sure_5 : decode cX10_sure 5 = .ok (.invokevirtual 178, 3) := by decide +kernel
theorem dX10_sure_8 : decode cX10_sure 8 = .ok (.ifCond .eq 10, 3) := by decide +kernel
theorem dX10_sure_11 : decode cX10_sure 11 = .ok (.iload_n 2, 1) := by decide +kernel
theorem dX10_sure_12 : decode cX10_sure 12 = .ok (.invokestatic 291, 3) := by decide +kernel
theorem dX10_sure_15 : decode cX10_sure 15 = .ok (.ifCond .ne 6, 3) := by decide +kernel
theorem dX10_sure_18 : decode cX10_sure 18 = .ok (.bipush (-2), 2) := by decide +kernel
theorem dX10_sure_20 : decode cX10_sure 20 = .ok (.ireturn, 1) := by decide +kernel
theorem dX10_sure_21 : decode cX10_sure 21 = .ok (.aload_n 0, 1) := by decide +kernel
theorem dX10_sure_22 : decode cX10_sure 22 = .ok (.getfield 93, 3) := by decide +kernel
theorem dX10_sure_25 : decode cX10_sure 25 = .ok (.iload_n 2, 1) := by decide +kernel
theorem dX10_sure_26 : decode cX10_sure 26 = .ok (.invokevirtual 294, 3) := by decide +kernel
theorem dX10_sure_29 : decode cX10_sure 29 = .ok (.aload_n 0, 1) := by decide +kernel
theorem dX10_sure_30 : decode cX10_sure 30 = .ok (.getfield 93, 3) := by decide +kernel
theorem dX10_sure_33 : decode cX10_sure 33 = .ok (.iload_n 1, 1) := by decide +kernel
theorem dX10_sure_34 : decode cX10_sure 34 = .ok (.invokevirtual 306, 3) := by decide +kernel
theorem dX10_sure_37 : decode cX10_sure 37 = .ok (.ireturn, 1) := by decide +kernel
noncomputable def f_X10_sure (a0 : Nat) (l1 : Int32) (l2 : Int32) (μ : Mm) : Option (Int32 × Mm) :=
  if (mm_K μ a0).1 = 11 then (gf_P 11 13 a0 μ).bind fun x1 => (f_X7_isPerson x1 l1 μ).bind fun x5 => if x5 = 0 then some ((-2 : Int32), μ) else (f_X10_isStep l2 μ).bind fun x12 => if x12 = 0 then some ((-2 : Int32), μ) else (gf_P 11 5 a0 μ).bind fun x22 => (f_X1_findFitting x22 l2 μ).bind fun x26 => (gf_P 11 5 a0 x26).bind fun x30 => (f_X1_mayDream x30 l1 x26).bind fun x34 => some (x34, x26) else none
abbrev Rn_X10_sure (G : Gv) (Q : Option Value → Mm → Prop) (mc ms c s : Nat) (pc : Nat) (lv : List (Nat × Value)) (st : List Value) (μ : Mm) : Prop := Rn G RX10 cX10_sure 3 (some .int) "sure" (rmd 16 mc ms) (Zm G mc ms Q) c s pc lv st μ
theorem t_X10_sure {a0 : Nat} {l1 : Int32} {l2 : Int32} {μ : Mm} {x : (Int32 × Mm)} (h : f_X10_sure a0 l1 l2 μ = some x) : Gr μ ((fun (q : (Int32 × Mm)) => q.2) x) := by
  have hk : Gr μ μ := Gr.rfl
  obtain ⟨_, h⟩ := ite_p h
  obtain ⟨x1, e1, h⟩ := bd h
  obtain ⟨x5, e5, h⟩ := bd h
  rcases ite_e h with ⟨_, h⟩ | ⟨_, h⟩
  · have h := Option.some.inj h
    subst h
    exact hk
  · obtain ⟨x12, e12, h⟩ := bd h
    rcases ite_e h with ⟨_, h⟩ | ⟨_, h⟩
    · have h := Option.some.inj h
      subst h
      exact hk
    · obtain ⟨x22, e22, h⟩ := bd h
      obtain ⟨x26, e26, h⟩ := bd h
      have hk := Gr.after (t_X1_findFitting e26) hk
      obtain ⟨x30, e30, h⟩ := bd h
      obtain ⟨x34, e34, h⟩ := bd h
      have h := Option.some.inj h
      subst h
      exact hk
set_option maxRecDepth 100000 in
set_option maxHeartbeats 4000000 in
theorem m_X10_sure {G : Gv} (a0 : Nat) (l1 : Int32) (l2 : Int32) (μ : Mm) {r : (Int32 × Mm)} (hx : f_X10_sure a0 l1 l2 μ = some r) (mc ms : Nat) (hn : mm_N r.2 ≤ mm_N μ + mc) (hz : mm_Z r.2 ≤ mm_Z μ + ms) : Mt G yX10_sure cX10_sure 3 (some .int) 16 mc ms [.ref a0, .int l1, .int l2] μ (fun v μ' => v = some (.int r.1) ∧ μ' = r.2) := by
  have hN : Nz μ μ 0 0 := ⟨rfl, rfl⟩
  have hC : 0 ≤ mc ∧ 0 ≤ ms := ⟨Nat.zero_le _, Nat.zero_le _⟩
  have hB : ∀ x : (Int32 × Mm), x = r → mm_N ((fun (q : (Int32 × Mm)) => q.2) x) ≤ mm_N μ + mc ∧ mm_Z ((fun (q : (Int32 × Mm)) => q.2) x) ≤ mm_Z μ + ms := fun x e => by subst e; exact ⟨hn, hz⟩
  refine Mt.of (by decide) (Nat.le_of_ble_eq_true rfl) ?_
  show Rn_X10_sure G (fun v μ' => v = some (.int r.1) ∧ μ' = r.2) mc ms 0 0 0 [(0, .ref a0), (1, .int l1), (2, .int l2)] [] μ
  obtain ⟨_, h⟩ := Sat_ifp (show Sat (f_X10_sure a0 l1 l2 μ) (fun x => x = r) from ⟨_, hx, rfl⟩)
  refine r_aload_n dX10_sure_0 0 rfl ?_
  obtain ⟨x1, e1, h⟩ := Sat_bind h
  refine r_getP fk_X10_63 rfl e1 dX10_sure_1 ?_
  refine r_iload_n dX10_sure_4 1 rfl ?_
  obtain ⟨x5, e5, h⟩ := Sat_bind h
  refine r_cV (t := 8) [.int l1] [] (m_X7_isPerson x1 l1 μ e5) ck_X7_isPerson lk_X10_178 in_X7_isPerson se_X7_isPerson (kd_of e5) ⟨rfl, by decide, by decide⟩ rfl rfl (Nat.le_of_ble_eq_true rfl) ⟨Nat.le_of_ble_eq_true rfl, Nat.le_of_ble_eq_true rfl⟩ hC dX10_sure_5 ?_
  refine r_if_eq 18 dX10_sure_8 (by decide) (fun c8 => ?_) (fun c8 => ?_)
  · have h := Sat_pos c8 h
    refine r_bipush (v := -2) dX10_sure_18 (by decide) ?_
    refine r_widen hC.1 hC.2 ?_
    exact r_ireturn rfl (by rw [← Sat_eq h]; exact ⟨rfl, rfl⟩) dX10_sure_20
  · have h := Sat_neg c8 h
    refine r_iload_n dX10_sure_11 2 rfl ?_
    obtain ⟨x12, e12, h⟩ := Sat_bind h
    refine r_cS [.int l2] [] (m_X10_isStep l2 μ e12) ck_X10_isStep lk_X10_291 st_X10_isStep rfl rfl (Nat.le_of_ble_eq_true rfl) ⟨Nat.le_of_ble_eq_true rfl, Nat.le_of_ble_eq_true rfl⟩ hC dX10_sure_12 ?_
    refine r_if_ne 21 dX10_sure_15 (by decide) (fun c15 => ?_) (fun c15 => ?_)
    · have h := Sat_neg c15 h
      refine r_aload_n dX10_sure_21 0 rfl ?_
      obtain ⟨x22, e22, h⟩ := Sat_bind h
      refine r_getP fk_X10_93 rfl e22 dX10_sure_22 ?_
      refine r_iload_n dX10_sure_25 2 rfl ?_
      obtain ⟨x26, e26, h⟩ := Sat_bind h
      have hN := nz_call (t_X1_findFitting e26) hN
      have hC := bud_of hN (by
        obtain ⟨x, h, hx⟩ := id h
        have hk : Gr (x26) (x26) := Gr.rfl
        refine bud_le (?_ : Gr _ ((fun (q : (Int32 × Mm)) => q.2) x)) (hB x hx)
        obtain ⟨x30, e30, h⟩ := bd h
        obtain ⟨x34, e34, h⟩ := bd h
        have h := Option.some.inj h
        subst h
        exact hk)
      refine r_bV (t := 2) [.int l2] [] (m_X1_findFitting x22 l2 μ e26 (mm_N x26 - mm_N μ) (mm_Z x26 - mm_Z μ) gr_N gr_Z) ck_X1_findFitting lk_X10_294 in_X1_findFitting se_X1_findFitting (kd_of e26) ⟨rfl, by decide, by decide⟩ rfl rfl (Nat.le_of_ble_eq_true rfl) ⟨Nat.le_of_ble_eq_true rfl, Nat.le_of_ble_eq_true rfl⟩ hC dX10_sure_26 ?_
      refine r_aload_n dX10_sure_29 0 rfl ?_
      obtain ⟨x30, e30, h⟩ := Sat_bind h
      refine r_getP fk_X10_93 rfl e30 dX10_sure_30 ?_
      refine r_iload_n dX10_sure_33 1 rfl ?_
      obtain ⟨x34, e34, h⟩ := Sat_bind h
      refine r_cV (t := 2) [.int l1] [] (m_X1_mayDream x30 l1 x26 e34) ck_X1_mayDream lk_X10_306 in_X1_mayDream se_X1_mayDream (kd_of e34) ⟨rfl, by decide, by decide⟩ rfl rfl (Nat.le_of_ble_eq_true rfl) ⟨Nat.le_of_ble_eq_true rfl, Nat.le_of_ble_eq_true rfl⟩ hC dX10_sure_34 ?_
      refine r_widen hC.1 hC.2 ?_
      exact r_ireturn rfl (by rw [← Sat_eq h]; exact ⟨rfl, rfl⟩) dX10_sure_37
    · have h := Sat_pos c15 h
      refine r_bipush (v := -2) dX10_sure_18 (by decide) ?_
      refine r_widen hC.1 hC.2 ?_
      exact r_ireturn rfl (by rw [← Sat_eq h]; exact ⟨rfl, rfl⟩) dX10_sure_20
theorem dX11_init_0 : decode cX11_init 0 = .ok (.aload_n 0, 1) := by decide +kernel
theorem dX11_init_1 : decode cX11_init 1 = .ok (.invokespecial 1, 3) := by decide +kernel
theorem dX11_init_4 : decode cX11_init 4 = .ok (.aload_n 0, 1) := by decide +kernel
theorem dX11_init_5 : decode cX11_init 5 = .ok (.sipush 900, 3) := by decide +kernel
theorem dX11_init_8 : decode cX11_init 8 = .ok (.newarray .byte, 2) := by decide +kernel
theorem dX11_init_10 : decode cX11_init 10 = .ok (.putfield 7, 3) := by decide +kernel
theorem dX11_init_13 : decode cX11_init 13 = .ok (.aload_n 0, 1) := by decide +kernel
theorem dX11_init_14 : decode cX11_init 14 = .ok (.iconst (-1), 1) := by decide +kernel
theorem dX11_init_15 : decode cX11_init 15 = .ok (.putfield 13, 3) := by decide +kernel
theorem dX11_init_18 : decode cX11_init 18 = .ok (.aload_n 0, 1) := by decide +kernel
theorem dX11_init_19 : decode cX11_init 19 = .ok (.bipush 22, 2) := by decide +kernel
theorem dX11_init_21 : decode cX11_init 21 = .ok (.newarray .int, 2) := by decide +kernel
theorem dX11_init_23 : decode cX11_init 23 = .ok (.putfield 17, 3) := by decide +kernel
theorem dX11_init_26 : decode cX11_init 26 = .ok (.aload_n 0, 1) := by decide +kernel
theorem dX11_init_27 : decode cX11_init 27 = .ok (.bipush 8, 2) := by decide +kernel
theorem dX11_init_29 : decode cX11_init 29 = .ok (.newarray .long, 2) := by decide +kernel
theorem dX11_init_31 : decode cX11_init 31 = .ok (.putfield 21, 3) := by decide +kernel
theorem dX11_init_34 : decode cX11_init 34 = .ok (.aload_n 0, 1) := by decide +kernel
theorem dX11_init_35 : decode cX11_init 35 = .ok (.bipush 16, 2) := by decide +kernel
theorem dX11_init_37 : decode cX11_init 37 = .ok (.newarray .int, 2) := by decide +kernel
theorem dX11_init_39 : decode cX11_init 39 = .ok (.putfield 25, 3) := by decide +kernel
theorem dX11_init_42 : decode cX11_init 42 = .ok (.aload_n 0, 1) := by decide +kernel
theorem dX11_init_43 : decode cX11_init 43 = .ok (.bipush 24, 2) := by decide +kernel
theorem dX11_init_45 : decode cX11_init 45 = .ok (.newarray .int, 2) := by decide +kernel
theorem dX11_init_47 : decode cX11_init 47 = .ok (.putfield 28, 3) := by decide +kernel
theorem dX11_init_50 : decode cX11_init 50 = .ok (.aload_n 0, 1) := by decide +kernel
theorem dX11_init_51 : decode cX11_init 51 = .ok (.bipush 24, 2) := by decide +kernel
theorem dX11_init_53 : decode cX11_init 53 = .ok (.newarray .int, 2) := by decide +kernel
theorem dX11_init_55 : decode cX11_init 55 = .ok (.putfield 31, 3) := by decide +kernel
theorem dX11_init_58 : decode cX11_init 58 = .ok (.aload_n 0, 1) := by decide +kernel
theorem dX11_init_59 : decode cX11_init 59 = .ok (.bipush 16, 2) := by decide +kernel
theorem dX11_init_61 : decode cX11_init 61 = .ok (.newarray .int, 2) := by decide +kernel
theorem dX11_init_63 : decode cX11_init 63 = .ok (.putfield 34, 3) := by decide +kernel
theorem dX11_init_66 : decode cX11_init 66 = .ok (.aload_n 0, 1) := by decide +kernel
theorem dX11_init_67 : decode cX11_init 67 = .ok (.bipush 16, 2) := by decide +kernel
theorem dX11_init_69 : decode cX11_init 69 = .ok (.newarray .int, 2) := by decide +kernel
theorem dX11_init_71 : decode cX11_init 71 = .ok (.putfield 37, 3) := by decide +kernel
theorem dX11_init_74 : decode cX11_init 74 = .ok (.aload_n 0, 1) := by decide +kernel
theorem dX11_init_75 : decode cX11_init 75 = .ok (.bipush 16, 2) := by decide +kernel
theorem dX11_init_77 : decode cX11_init 77 = .ok (.newarray .int, 2) := by decide +kernel
theorem dX11_init_79 : decode cX11_init 79 = .ok (.putfield 40, 3) := by decide +kernel
theorem dX11_init_82 : decode cX11_init 82 = .ok (.aload_n 0, 1) := by decide +kernel
theorem dX11_init_83 : decode cX11_init 83 = .ok (.bipush 16, 2) := by decide +kernel
theorem dX11_init_85 : decode cX11_init 85 = .ok (.newarray .int, 2) := by decide +kernel
theorem dX11_init_87 : decode cX11_init 87 = .ok (.putfield 43, 3) := by decide +kernel
theorem dX11_init_90 : decode cX11_init 90 = .ok (.aload_n 0, 1) := by decide +kernel
theorem dX11_init_91 : decode cX11_init 91 = .ok (.bipush 16, 2) := by decide +kernel
theorem dX11_init_93 : decode cX11_init 93 = .ok (.newarray .int, 2) := by decide +kernel
theorem dX11_init_95 : decode cX11_init 95 = .ok (.putfield 46, 3) := by decide +kernel
theorem dX11_init_98 : decode cX11_init 98 = .ok (.aload_n 0, 1) := by decide +kernel
theorem dX11_init_99 : decode cX11_init 99 = .ok (.bipush 16, 2) := by decide +kernel
theorem dX11_init_101 : decode cX11_init 101 = .ok (.newarray .int, 2) := by decide +kernel
theorem dX11_init_103 : decode cX11_init 103 = .ok (.putfield 49, 3) := by decide +kernel
theorem dX11_init_106 : decode cX11_init 106 = .ok (.aload_n 0, 1) := by decide +kernel
theorem dX11_init_107 : decode cX11_init 107 = .ok (.bipush 16, 2) := by decide +kernel
theorem dX11_init_109 : decode cX11_init 109 = .ok (.newarray .int, 2) := by decide +kernel
theorem dX11_init_111 : decode cX11_init 111 = .ok (.putfield 52, 3) := by decide +kernel
theorem dX11_init_114 : decode cX11_init 114 = .ok (.aload_n 0, 1) := by decide +kernel
theorem dX11_init_115 : decode cX11_init 115 = .ok (.bipush 16, 2) := by decide +kernel
theorem dX11_init_117 : decode cX11_init 117 = .ok (.newarray .int, 2) := by decide +kernel
theorem dX11_init_119 : decode cX11_init 119 = .ok (.putfield 55, 3) := by decide +kernel
theorem dX11_init_122 : decode cX11_init 122 = .ok (.aload_n 0, 1) := by decide +kernel
theorem dX11_init_123 : decode cX11_init 123 = .ok (.bipush 16, 2) := by decide +kernel
theorem dX11_init_125 : decode cX11_init 125 = .ok (.newarray .int, 2) := by decide +kernel
theorem dX11_init_127 : decode cX11_init 127 = .ok (.putfield 58, 3) := by decide +kernel
theorem dX11_init_130 : decode cX11_init 130 = .ok (.aload_n 0, 1) := by decide +kernel
theorem dX11_init_131 : decode cX11_init 131 = .ok (.bipush 16, 2) := by decide +kernel
theorem dX11_init_133 : decode cX11_init 133 = .ok (.newarray .int, 2) := by decide +kernel
theorem dX11_init_135 : decode cX11_init 135 = .ok (.putfield 61, 3) := by decide +kernel
theorem dX11_init_138 : decode cX11_init 138 = .ok (.aload_n 0, 1) := by decide +kernel
theorem dX11_init_139 : decode cX11_init 139 = .ok (.bipush 16, 2) := by decide +kernel
theorem dX11_init_141 : decode cX11_init 141 = .ok (.newarray .int, 2) := by decide +kernel
theorem dX11_init_143 : decode cX11_init 143 = .ok (.putfield 64, 3) := by decide +kernel
theorem dX11_init_146 : decode cX11_init 146 = .ok (.aload_n 0, 1) := by decide +kernel
theorem dX11_init_147 : decode cX11_init 147 = .ok (.bipush 16, 2) := by decide +kernel
theorem dX11_init_149 : decode cX11_init 149 = .ok (.newarray .int, 2) := by decide +kernel
theorem dX11_init_151 : decode cX11_init 151 = .ok (.putfield 67, 3) := by decide +kernel
theorem dX11_init_154 : decode cX11_init 154 = .ok (.aload_n 0, 1) := by decide +kernel
theorem dX11_init_155 : decode cX11_init 155 = .ok (.bipush 16, 2) := by decide +kernel
theorem dX11_init_157 : decode cX11_init 157 = .ok (.newarray .int, 2) := by decide +kernel
theorem dX11_init_159 : decode cX11_init 159 = .ok (.putfield 70, 3) := by decide +kernel
theorem dX11_init_162 : decode cX11_init 162 = .ok (.aload_n 0, 1) := by decide +kernel
theorem dX11_init_163 : decode cX11_init 163 = .ok (.sipush 14833, 3) := by decide +kernel
theorem dX11_init_166 : decode cX11_init 166 = .ok (.newarray .long, 2) := by decide +kernel
theorem dX11_init_168 : decode cX11_init 168 = .ok (.putfield 73, 3) := by decide +kernel
theorem dX11_init_171 : decode cX11_init 171 = .ok (.aload_n 0, 1) := by decide +kernel
theorem dX11_init_172 : decode cX11_init 172 = .ok (.bipush 8, 2) := by decide +kernel
theorem dX11_init_174 : decode cX11_init 174 = .ok (.newarray .int, 2) := by decide +kernel
theorem dX11_init_176 : decode cX11_init 176 = .ok (.putfield 76, 3) := by decide +kernel
theorem dX11_init_179 : decode cX11_init 179 = .ok (.aload_n 0, 1) := by decide +kernel
theorem dX11_init_180 : decode cX11_init 180 = .ok (.bipush 8, 2) := by decide +kernel
theorem dX11_init_182 : decode cX11_init 182 = .ok (.newarray .int, 2) := by decide +kernel
theorem dX11_init_184 : decode cX11_init 184 = .ok (.putfield 79, 3) := by decide +kernel
theorem dX11_init_187 : decode cX11_init 187 = .ok (.aload_n 0, 1) := by decide +kernel
theorem dX11_init_188 : decode cX11_init 188 = .ok (.sipush 150, 3) := by decide +kernel
theorem dX11_init_191 : decode cX11_init 191 = .ok (.newarray .int, 2) := by decide +kernel
theorem dX11_init_193 : decode cX11_init 193 = .ok (.putfield 82, 3) := by decide +kernel
theorem dX11_init_196 : decode cX11_init 196 = .ok (.aload_n 0, 1) := by decide +kernel
theorem dX11_init_197 : decode cX11_init 197 = .ok (.sipush 150, 3) := by decide +kernel
theorem dX11_init_200 : decode cX11_init 200 = .ok (.newarray .int, 2) := by decide +kernel
theorem dX11_init_202 : decode cX11_init 202 = .ok (.putfield 85, 3) := by decide +kernel
theorem dX11_init_205 : decode cX11_init 205 = .ok (.aload_n 0, 1) := by decide +kernel
theorem dX11_init_206 : decode cX11_init 206 = .ok (.sipush 150, 3) := by decide +kernel
theorem dX11_init_209 : decode cX11_init 209 = .ok (.newarray .int, 2) := by decide +kernel
theorem dX11_init_211 : decode cX11_init 211 = .ok (.putfield 88, 3) := by decide +kernel
theorem dX11_init_214 : decode cX11_init 214 = .ok (.aload_n 0, 1) := by decide +kernel
theorem dX11_init_215 : decode cX11_init 215 = .ok (.bipush 16, 2) := by decide +kernel
theorem dX11_init_217 : decode cX11_init 217 = .ok (.newarray .int, 2) := by decide +kernel
theorem dX11_init_219 : decode cX11_init 219 = .ok (.putfield 91, 3) := by decide +kernel
theorem dX11_init_222 : decode cX11_init 222 = .ok (.aload_n 0, 1) := by decide +kernel
theorem dX11_init_223 : decode cX11_init 223 = .ok (.bipush 16, 2) := by decide +kernel
theorem dX11_init_225 : decode cX11_init 225 = .ok (.newarray .int, 2) := by decide +kernel
theorem dX11_init_227 : decode cX11_init 227 = .ok (.putfield 94, 3) := by decide +kernel
theorem dX11_init_230 : decode cX11_init 230 = .ok (.aload_n 0, 1) := by decide +kernel
theorem dX11_init_231 : decode cX11_init 231 = .ok (.bipush 16, 2) := by decide +kernel
theorem dX11_init_233 : decode cX11_init 233 = .ok (.newarray .int, 2) := by decide +kernel
theorem dX11_init_235 : decode cX11_init 235 = .ok (.putfield 97, 3) := by decide +kernel
theorem dX11_init_238 : decode cX11_init 238 = .ok (.aload_n 0, 1) := by decide +kernel
theorem dX11_init_239 : decode cX11_init 239 = .ok (.bipush 16, 2) := by decide +kernel
theorem dX11_init_241 : decode cX11_init 241 = .ok (.newarray .int, 2) := by decide +kernel
theorem dX11_init_243 : decode cX11_init 243 = .ok (.putfield 100, 3) := by decide +kernel
theorem dX11_init_246 : decode cX11_init 246 = .ok (.aload_n 0, 1) := by decide +kernel
theorem dX11_init_247 : decode cX11_init 247 = .ok (.bipush 16, 2) := by decide +kernel
theorem dX11_init_249 : decode cX11_init 249 = .ok (.newarray .int, 2) := by decide +kernel
theorem dX11_init_251 : decode cX11_init 251 = .ok (.putfield 103, 3) := by decide +kernel
theorem dX11_init_254 : decode cX11_init 254 = .ok (.aload_n 0, 1) := by decide +kernel
theorem dX11_init_255 : decode cX11_init 255 = .ok (.bipush 20, 2) := by decide +kernel
theorem dX11_init_257 : decode cX11_init 257 = .ok (.newarray .int, 2) := by decide +kernel
theorem dX11_init_259 : decode cX11_init 259 = .ok (.putfield 106, 3) := by decide +kernel
theorem dX11_init_262 : decode cX11_init 262 = .ok (.aload_n 0, 1) := by decide +kernel
theorem dX11_init_263 : decode cX11_init 263 = .ok (.bipush 20, 2) := by decide +kernel
theorem dX11_init_265 : decode cX11_init 265 = .ok (.newarray .int, 2) := by decide +kernel
theorem dX11_init_267 : decode cX11_init 267 = .ok (.putfield 109, 3) := by decide +kernel
theorem dX11_init_270 : decode cX11_init 270 = .ok (.aload_n 0, 1) := by decide +kernel
theorem dX11_init_271 : decode cX11_init 271 = .ok (.bipush 20, 2) := by decide +kernel
theorem dX11_init_273 : decode cX11_init 273 = .ok (.newarray .int, 2) := by decide +kernel
theorem dX11_init_275 : decode cX11_init 275 = .ok (.putfield 112, 3) := by decide +kernel
theorem dX11_init_278 : decode cX11_init 278 = .ok (.aload_n 0, 1) := by decide +kernel
theorem dX11_init_279 : decode cX11_init 279 = .ok (.sipush 232, 3) := by decide +kernel
theorem dX11_init_282 : decode cX11_init 282 = .ok (.newarray .long, 2) := by decide +kernel
theorem dX11_init_284 : decode cX11_init 284 = .ok (.putfield 115, 3) := by decide +kernel
theorem dX11_init_287 : decode cX11_init 287 = .ok (.aload_n 0, 1) := by decide +kernel
theorem dX11_init_288 : decode cX11_init 288 = .ok (.sipush 2688, 3) := by decide +kernel
theorem dX11_init_291 : decode cX11_init 291 = .ok (.newarray .int, 2) := by decide +kernel
theorem dX11_init_293 : decode cX11_init 293 = .ok (.putfield 118, 3) := by decide +kernel
theorem dX11_init_296 : decode cX11_init 296 = .ok (.aload_n 0, 1) := by decide +kernel
theorem dX11_init_297 : decode cX11_init 297 = .ok (.bipush 9, 2) := by decide +kernel
theorem dX11_init_299 : decode cX11_init 299 = .ok (.newarray .int, 2) := by decide +kernel
theorem dX11_init_301 : decode cX11_init 301 = .ok (.putfield 121, 3) := by decide +kernel
theorem dX11_init_304 : decode cX11_init 304 = .ok (.aload_n 0, 1) := by decide +kernel
theorem dX11_init_305 : decode cX11_init 305 = .ok (.bipush 16, 2) := by decide +kernel
theorem dX11_init_307 : decode cX11_init 307 = .ok (.newarray .int, 2) := by decide +kernel
theorem dX11_init_309 : decode cX11_init 309 = .ok (.putfield 124, 3) := by decide +kernel
theorem dX11_init_312 : decode cX11_init 312 = .ok (.aload_n 0, 1) := by decide +kernel
theorem dX11_init_313 : decode cX11_init 313 = .ok (.bipush 21, 2) := by decide +kernel
theorem dX11_init_315 : decode cX11_init 315 = .ok (.newarray .int, 2) := by decide +kernel
theorem dX11_init_317 : decode cX11_init 317 = .ok (.putfield 127, 3) := by decide +kernel
theorem dX11_init_320 : decode cX11_init 320 = .ok (.aload_n 0, 1) := by decide +kernel
theorem dX11_init_321 : decode cX11_init 321 = .ok (.sipush 231, 3) := by decide +kernel
theorem dX11_init_324 : decode cX11_init 324 = .ok (.newarray .long, 2) := by decide +kernel
theorem dX11_init_326 : decode cX11_init 326 = .ok (.putfield 130, 3) := by decide +kernel
theorem dX11_init_329 : decode cX11_init 329 = .ok (.aload_n 0, 1) := by decide +kernel
theorem dX11_init_330 : decode cX11_init 330 = .ok (.bipush 32, 2) := by decide +kernel
theorem dX11_init_332 : decode cX11_init 332 = .ok (.newarray .int, 2) := by decide +kernel
theorem dX11_init_334 : decode cX11_init 334 = .ok (.putfield 133, 3) := by decide +kernel
theorem dX11_init_337 : decode cX11_init 337 = .ok (.aload_n 0, 1) := by decide +kernel
theorem dX11_init_338 : decode cX11_init 338 = .ok (.iconst 3, 1) := by decide +kernel
theorem dX11_init_339 : decode cX11_init 339 = .ok (.newarray .int, 2) := by decide +kernel
theorem dX11_init_341 : decode cX11_init 341 = .ok (.putfield 136, 3) := by decide +kernel
theorem dX11_init_344 : decode cX11_init 344 = .ok (.aload_n 0, 1) := by decide +kernel
theorem dX11_init_345 : decode cX11_init 345 = .ok (.iconst 3, 1) := by decide +kernel
theorem dX11_init_346 : decode cX11_init 346 = .ok (.newarray .int, 2) := by decide +kernel
theorem dX11_init_348 : decode cX11_init 348 = .ok (.putfield 139, 3) := by decide +kernel
theorem dX11_init_351 : decode cX11_init 351 = .ok (.aload_n 0, 1) := by decide +kernel
theorem dX11_init_352 : decode cX11_init 352 = .ok (.iconst 3, 1) := by decide +kernel
theorem dX11_init_353 : decode cX11_init 353 = .ok (.newarray .long, 2) := by decide +kernel
theorem dX11_init_355 : decode cX11_init 355 = .ok (.putfield 142, 3) := by decide +kernel
theorem dX11_init_358 : decode cX11_init 358 = .ok (.aload_n 0, 1) := by decide +kernel
theorem dX11_init_359 : decode cX11_init 359 = .ok (.iconst 3, 1) := by decide +kernel
theorem dX11_init_360 : decode cX11_init 360 = .ok (.newarray .boolean, 2) := by decide +kernel
theorem dX11_init_362 : decode cX11_init 362 = .ok (.putfield 145, 3) := by decide +kernel
theorem dX11_init_365 : decode cX11_init 365 = .ok (.aload_n 0, 1) := by decide +kernel
theorem dX11_init_366 : decode cX11_init 366 = .ok (.invokevirtual 149, 3) := by decide +kernel
theorem dX11_init_369 : decode cX11_init 369 = .ok (.aload_n 0, 1) := by decide +kernel
theorem dX11_init_370 : decode cX11_init 370 = .ok (.invokevirtual 152, 3) := by decide +kernel
theorem dX11_init_373 : decode cX11_init 373 = .ok (.return_, 1) := by decide +kernel
noncomputable def f_X11_init (a0 : Nat) (μ : Mm) : Option Mm :=
  if (mm_K μ a0).1 = 12 then (nw_A 22 (900 : Int32) μ).bind fun n8 => (pf_P 12 0 a0 n8.1 n8.2).bind fun μ10 => (pf_I 12 9 a0 (-1 : Int32) μ10).bind fun μ15 => (nw_A 20 (22 : Int32) μ15).bind fun n21 => (pf_P 12 12 a0 n21.1 n21.2).bind fun μ23 => (nw_A 21 (8 : Int32) μ23).bind fun n29 => (pf_P 12 13 a0 n29.1 n29.2).bind fun μ31 => (nw_A 20 (16 : Int32) μ31).bind fun n37 => (pf_P 12 14 a0 n37.1 n37.2).bind fun μ39 => (nw_A 20 (24 : Int32) μ39).bind fun n45 => (pf_P 12 15 a0 n45.1 n45.2).bind fun μ47 => (nw_A 20 (24 : Int32) μ47).bind fun n53 => (pf_P 12 16 a0 n53.1 n53.2).bind fun μ55 => (nw_A 20 (16 : Int32) μ55).bind fun n61 => (pf_P 12 17 a0 n61.1 n61.2).bind fun μ63 => (nw_A 20 (16 : Int32) μ63).bind fun n69 => (pf_P 12 18 a0 n69.1 n69.2).bind fun μ71 => (nw_A 20 (16 : Int32) μ71).bind fun n77 => (pf_P 12 19 a0 n77.1 n77.2).bind fun μ79 => (nw_A 20 (16 : Int32) μ79).bind fun n85 => (pf_P 12 20 a0 n85.1 n85.2).bind fun μ87 => (nw_A 20 (16 : Int32) μ87).bind fun n93 => (pf_P 12 21 a0 n93.1 n93.2).bind fun μ95 => (nw_A 20 (16 : Int32) μ95).bind fun n101 => (pf_P 12 22 a0 n101.1 n101.2).bind fun μ103 => (nw_A 20 (16 : Int32) μ103).bind fun n109 => (pf_P 12 23 a0 n109.1 n109.2).bind fun μ111 => (nw_A 20 (16 : Int32) μ111).bind fun n117 => (pf_P 12 24 a0 n117.1 n117.2).bind fun μ119 => (nw_A 20 (16 : Int32) μ119).bind fun n125 => (pf_P 12 25 a0 n125.1 n125.2).bind fun μ127 => (nw_A 20 (16 : Int32) μ127).bind fun n133 => (pf_P 12 26 a0 n133.1 n133.2).bind fun μ135 => (nw_A 20 (16 : Int32) μ135).bind fun n141 => (pf_P 12 27 a0 n141.1 n141.2).bind fun μ143 => (nw_A 20 (16 : Int32) μ143).bind fun n149 => (pf_P 12 28 a0 n149.1 n149.2).bind fun μ151 => (nw_A 20 (16 : Int32) μ151).bind fun n157 => (pf_P 12 29 a0 n157.1 n157.2).bind fun μ159 => (nw_A 21 (14833 : Int32) μ159).bind fun n166 => (pf_P 12 34 a0 n166.1 n166.2).bind fun μ168 => (nw_A 20 (8 : Int32) μ168).bind fun n174 => (pf_P 12 35 a0 n174.1 n174.2).bind fun μ176 => (nw_A 20 (8 : Int32) μ176).bind fun n182 => (pf_P 12 36 a0 n182.1 n182.2).bind fun μ184 => (nw_A 20 (150 : Int32) μ184).bind fun n191 => (pf_P 12 43 a0 n191.1 n191.2).bind fun μ193 => (nw_A 20 (150 : Int32) μ193).bind fun n200 => (pf_P 12 44 a0 n200.1 n200.2).bind fun μ202 => (nw_A 20 (150 : Int32) μ202).bind fun n209 => (pf_P 12 45 a0 n209.1 n209.2).bind fun μ211 => (nw_A 20 (16 : Int32) μ211).bind fun n217 => (pf_P 12 49 a0 n217.1 n217.2).bind fun μ219 => (nw_A 20 (16 : Int32) μ219).bind fun n225 => (pf_P 12 50 a0 n225.1 n225.2).bind fun μ227 => (nw_A 20 (16 : Int32) μ227).bind fun n233 => (pf_P 12 51 a0 n233.1 n233.2).bind fun μ235 => (nw_A 20 (16 : Int32) μ235).bind fun n241 => (pf_P 12 52 a0 n241.1 n241.2).bind fun μ243 => (nw_A 20 (16 : Int32) μ243).bind fun n249 => (pf_P 12 53 a0 n249.1 n249.2).bind fun μ251 => (nw_A 20 (20 : Int32) μ251).bind fun n257 => (pf_P 12 54 a0 n257.1 n257.2).bind fun μ259 => (nw_A 20 (20 : Int32) μ259).bind fun n265 => (pf_P 12 55 a0 n265.1 n265.2).bind fun μ267 => (nw_A 20 (20 : Int32) μ267).bind fun n273 => (pf_P 12 56 a0 n273.1 n273.2).bind fun μ275 => (nw_A 21 (232 : Int32) μ275).bind fun n282 => (pf_P 12 57 a0 n282.1 n282.2).bind fun μ284 => (nw_A 20 (2688 : Int32) μ284).bind fun n291 => (pf_P 12 58 a0 n291.1 n291.2).bind fun μ293 => (nw_A 20 (9 : Int32) μ293).bind fun n299 => (pf_P 12 59 a0 n299.1 n299.2).bind fun μ301 => (nw_A 20 (16 : Int32) μ301).bind fun n307 => (pf_P 12 61 a0 n307.1 n307.2).bind fun μ309 => (nw_A 20 (21 : Int32) μ309).bind fun n315 => (pf_P 12 62 a0 n315.1 n315.2).bind fun μ317 => (nw_A 21 (231 : Int32) μ317).bind fun n324 => (pf_P 12 63 a0 n324.1 n324.2).bind fun μ326 => (nw_A 20 (32 : Int32) μ326).bind fun n332 => (pf_P 12 68 a0 n332.1 n332.2).bind fun μ334 => (nw_A 20 (3 : Int32) μ334).bind fun n339 => (pf_P 12 69 a0 n339.1 n339.2).bind fun μ341 => (nw_A 20 (3 : Int32) μ341).bind fun n346 => (pf_P 12 70 a0 n346.1 n346.2).bind fun μ348 => (nw_A 21 (3 : Int32) μ348).bind fun n353 => (pf_P 12 71 a0 n353.1 n353.2).bind fun μ355 => (nw_A 23 (3 : Int32) μ355).bind fun n360 => (pf_P 12 72 a0 n360.1 n360.2).bind fun μ362 => (f_X11_begin a0 μ362).bind fun x366 => (f_X11_settle a0 x366).bind fun x370 => some x370 else none
abbrev Rn_X11_init (G : Gv) (Q : Option Value → Mm → Prop) (mc ms c s : Nat) (pc : Nat) (lv : List (Nat × Value)) (st : List Value) (μ : Mm) : Prop := Rn G RX11 cX11_init 1 none "<init>" (rmd 13 mc ms) (Zm G mc ms Q) c s pc lv st μ
theorem t_X11_init {a0 : Nat} {μ : Mm} {x : Mm} (h : f_X11_init a0 μ = some x) : Gr μ ((fun (q : Mm) => q) x) := by
  have hk : Gr μ μ := Gr.rfl
  obtain ⟨_, h⟩ := ite_p h
  obtain ⟨n8, e8, h⟩ := bd h
  have hk := Gr.trans hk (gr_A (by decide) e8)
  obtain ⟨μ10, e10, h⟩ := bd h
  have hk := Gr.after (Gr.of (kq_pfP e10)) hk
  obtain ⟨μ15, e15, h⟩ := bd h
  have hk := Gr.after (Gr.of (kq_pfI e15)) hk
  obtain ⟨n21, e21, h⟩ := bd h
  have hk := Gr.trans hk (gr_A (by decide) e21)
  obtain ⟨μ23, e23, h⟩ := bd h
  have hk := Gr.after (Gr.of (kq_pfP e23)) hk
  obtain ⟨n29, e29, h⟩ := bd h
  have hk := Gr.trans hk (gr_A (by decide) e29)
  obtain ⟨μ31, e31, h⟩ := bd h
  have hk := Gr.after (Gr.of (kq_pfP e31)) hk
  obtain ⟨n37, e37, h⟩ := bd h
  have hk := Gr.trans hk (gr_A (by decide) e37)
  obtain ⟨μ39, e39, h⟩ := bd h
  have hk := Gr.after (Gr.of (kq_pfP e39)) hk
  obtain ⟨n45, e45, h⟩ := bd h
  have hk := Gr.trans hk (gr_A (by decide) e45)
  obtain ⟨μ47, e47, h⟩ := bd h
  have hk := Gr.after (Gr.of (kq_pfP e47)) hk
  obtain ⟨n53, e53, h⟩ := bd h
  have hk := Gr.trans hk (gr_A (by decide) e53)
  obtain ⟨μ55, e55, h⟩ := bd h
  have hk := Gr.after (Gr.of (kq_pfP e55)) hk
  obtain ⟨n61, e61, h⟩ := bd h
  have hk := Gr.trans hk (gr_A (by decide) e61)
  obtain ⟨μ63, e63, h⟩ := bd h
  have hk := Gr.after (Gr.of (kq_pfP e63)) hk
  obtain ⟨n69, e69, h⟩ := bd h
  have hk := Gr.trans hk (gr_A (by decide) e69)
  obtain ⟨μ71, e71, h⟩ := bd h
  have hk := Gr.after (Gr.of (kq_pfP e71)) hk
  obtain ⟨n77, e77, h⟩ := bd h
  have hk := Gr.trans hk (gr_A (by decide) e77)
  obtain ⟨μ79, e79, h⟩ := bd h
  have hk := Gr.after (Gr.of (kq_pfP e79)) hk
  obtain ⟨n85, e85, h⟩ := bd h
  have hk := Gr.trans hk (gr_A (by decide) e85)
  obtain ⟨μ87, e87, h⟩ := bd h
  have hk := Gr.after (Gr.of (kq_pfP e87)) hk
  obtain ⟨n93, e93, h⟩ := bd h
  have hk := Gr.trans hk (gr_A (by decide) e93)
  obtain ⟨μ95, e95, h⟩ := bd h
  have hk := Gr.after (Gr.of (kq_pfP e95)) hk
  obtain ⟨n101, e101, h⟩ := bd h
  have hk := Gr.trans hk (gr_A (by decide) e101)
  obtain ⟨μ103, e103, h⟩ := bd h
  have hk := Gr.after (Gr.of (kq_pfP e103)) hk
  obtain ⟨n109, e109, h⟩ := bd h
  have hk := Gr.trans hk (gr_A (by decide) e109)
  obtain ⟨μ111, e111, h⟩ := bd h
  have hk := Gr.after (Gr.of (kq_pfP e111)) hk
  obtain ⟨n117, e117, h⟩ := bd h
  have hk := Gr.trans hk (gr_A (by decide) e117)
  obtain ⟨μ119, e119, h⟩ := bd h
  have hk := Gr.after (Gr.of (kq_pfP e119)) hk
  obtain ⟨n125, e125, h⟩ := bd h
  have hk := Gr.trans hk (gr_A (by decide) e125)
  obtain ⟨μ127, e127, h⟩ := bd h
  have hk := Gr.after (Gr.of (kq_pfP e127)) hk
  obtain ⟨n133, e133, h⟩ := bd h
  have hk := Gr.trans hk (gr_A (by decide) e133)
  obtain ⟨μ135, e135, h⟩ := bd h
  have hk := Gr.after (Gr.of (kq_pfP e135)) hk
  obtain ⟨n141, e141, h⟩ := bd h
  have hk := Gr.trans hk (gr_A (by decide) e141)
  obtain ⟨μ143, e143, h⟩ := bd h
  have hk := Gr.after (Gr.of (kq_pfP e143)) hk
  obtain ⟨n149, e149, h⟩ := bd h
  have hk := Gr.trans hk (gr_A (by decide) e149)
  obtain ⟨μ151, e151, h⟩ := bd h
  have hk := Gr.after (Gr.of (kq_pfP e151)) hk
  obtain ⟨n157, e157, h⟩ := bd h
  have hk := Gr.trans hk (gr_A (by decide) e157)
  obtain ⟨μ159, e159, h⟩ := bd h
  have hk := Gr.after (Gr.of (kq_pfP e159)) hk
  obtain ⟨n166, e166, h⟩ := bd h
  have hk := Gr.trans hk (gr_A (by decide) e166)
  obtain ⟨μ168, e168, h⟩ := bd h
  have hk := Gr.after (Gr.of (kq_pfP e168)) hk
  obtain ⟨n174, e174, h⟩ := bd h
  have hk := Gr.trans hk (gr_A (by decide) e174)
  obtain ⟨μ176, e176, h⟩ := bd h
  have hk := Gr.after (Gr.of (kq_pfP e176)) hk
  obtain ⟨n182, e182, h⟩ := bd h
  have hk := Gr.trans hk (gr_A (by decide) e182)
  obtain ⟨μ184, e184, h⟩ := bd h
  have hk := Gr.after (Gr.of (kq_pfP e184)) hk
  obtain ⟨n191, e191, h⟩ := bd h
  have hk := Gr.trans hk (gr_A (by decide) e191)
  obtain ⟨μ193, e193, h⟩ := bd h
  have hk := Gr.after (Gr.of (kq_pfP e193)) hk
  obtain ⟨n200, e200, h⟩ := bd h
  have hk := Gr.trans hk (gr_A (by decide) e200)
  obtain ⟨μ202, e202, h⟩ := bd h
  have hk := Gr.after (Gr.of (kq_pfP e202)) hk
  obtain ⟨n209, e209, h⟩ := bd h
  have hk := Gr.trans hk (gr_A (by decide) e209)
  obtain ⟨μ211, e211, h⟩ := bd h
  have hk := Gr.after (Gr.of (kq_pfP e211)) hk
  obtain ⟨n217, e217, h⟩ := bd h
  have hk := Gr.trans hk (gr_A (by decide) e217)
  obtain ⟨μ219, e219, h⟩ := bd h
  have hk := Gr.after (Gr.of (kq_pfP e219)) hk
  obtain ⟨n225, e225, h⟩ := bd h
  have hk := Gr.trans hk (gr_A (by decide) e225)
  obtain ⟨μ227, e227, h⟩ := bd h
  have hk := Gr.after (Gr.of (kq_pfP e227)) hk
  obtain ⟨n233, e233, h⟩ := bd h
  have hk := Gr.trans hk (gr_A (by decide) e233)
  obtain ⟨μ235, e235, h⟩ := bd h
  have hk := Gr.after (Gr.of (kq_pfP e235)) hk
  obtain ⟨n241, e241, h⟩ := bd h
  have hk := Gr.trans hk (gr_A (by decide) e241)
  obtain ⟨μ243, e243, h⟩ := bd h
  have hk := Gr.after (Gr.of (kq_pfP e243)) hk
  obtain ⟨n249, e249, h⟩ := bd h
  have hk := Gr.trans hk (gr_A (by decide) e249)
  obtain ⟨μ251, e251, h⟩ := bd h
  have hk := Gr.after (Gr.of (kq_pfP e251)) hk
  obtain ⟨n257, e257, h⟩ := bd h
  have hk := Gr.trans hk (gr_A (by decide) e257)
  obtain ⟨μ259, e259, h⟩ := bd h
  have hk := Gr.after (Gr.of (kq_pfP e259)) hk
  obtain ⟨n265, e265, h⟩ := bd h
  have hk := Gr.trans hk (gr_A (by decide) e265)
  obtain ⟨μ267, e267, h⟩ := bd h
  have hk := Gr.after (Gr.of (kq_pfP e267)) hk
  obtain ⟨n273, e273, h⟩ := bd h
  have hk := Gr.trans hk (gr_A (by decide) e273)
  obtain ⟨μ275, e275, h⟩ := bd h
  have hk := Gr.after (Gr.of (kq_pfP e275)) hk
  obtain ⟨n282, e282, h⟩ := bd h
  have hk := Gr.trans hk (gr_A (by decide) e282)
  obtain ⟨μ284, e284, h⟩ := bd h
  have hk := Gr.after (Gr.of (kq_pfP e284)) hk
  obtain ⟨n291, e291, h⟩ := bd h
  have hk := Gr.trans hk (gr_A (by decide) e291)
  obtain ⟨μ293, e293, h⟩ := bd h
  have hk := Gr.after (Gr.of (kq_pfP e293)) hk
  obtain ⟨n299, e299, h⟩ := bd h
  have hk := Gr.trans hk (gr_A (by decide) e299)
  obtain ⟨μ301, e301, h⟩ := bd h
  have hk := Gr.after (Gr.of (kq_pfP e301)) hk
  obtain ⟨n307, e307, h⟩ := bd h
  have hk := Gr.trans hk (gr_A (by decide) e307)
  obtain ⟨μ309, e309, h⟩ := bd h
  have hk := Gr.after (Gr.of (kq_pfP e309)) hk
  obtain ⟨n315, e315, h⟩ := bd h
  have hk := Gr.trans hk (gr_A (by decide) e315)
  obtain ⟨μ317, e317, h⟩ := bd h
  have hk := Gr.after (Gr.of (kq_pfP e317)) hk
  obtain ⟨n324, e324, h⟩ := bd h
  have hk := Gr.trans hk (gr_A (by decide) e324)
  obtain ⟨μ326, e326, h⟩ := bd h
  have hk := Gr.after (Gr.of (kq_pfP e326)) hk
  obtain ⟨n332, e332, h⟩ := bd h
  have hk := Gr.trans hk (gr_A (by decide) e332)
  obtain ⟨μ334, e334, h⟩ := bd h
  have hk := Gr.after (Gr.of (kq_pfP e334)) hk
  obtain ⟨n339, e339, h⟩ := bd h
  have hk := Gr.trans hk (gr_A (by decide) e339)
  obtain ⟨μ341, e341, h⟩ := bd h
  have hk := Gr.after (Gr.of (kq_pfP e341)) hk
  obtain ⟨n346, e346, h⟩ := bd h
  have hk := Gr.trans hk (gr_A (by decide) e346)
  obtain ⟨μ348, e348, h⟩ := bd h
  have hk := Gr.after (Gr.of (kq_pfP e348)) hk
  obtain ⟨n353, e353, h⟩ := bd h
  have hk := Gr.trans hk (gr_A (by decide) e353)
  obtain ⟨μ355, e355, h⟩ := bd h
  have hk := Gr.after (Gr.of (kq_pfP e355)) hk
  obtain ⟨n360, e360, h⟩ := bd h
  have hk := Gr.trans hk (gr_A (by decide) e360)
  obtain ⟨μ362, e362, h⟩ := bd h
  have hk := Gr.after (Gr.of (kq_pfP e362)) hk
  obtain ⟨x366, e366, h⟩ := bd h
  have hk := Gr.after (Gr.of (t_X11_begin e366)) hk
  obtain ⟨x370, e370, h⟩ := bd h
  have hk := Gr.after (Gr.of (t_X11_settle e370)) hk
  have h := Option.some.inj h
  subst h
  exact hk
set_option maxRecDepth 100000 in
set_option maxHeartbeats 4000000 in
theorem m_X11_init {G : Gv} (a0 : Nat) (μ : Mm) {r : Mm} (hx : f_X11_init a0 μ = some r) (mc ms : Nat) (hn : mm_N r ≤ mm_N μ + mc) (hz : mm_Z r ≤ mm_Z μ + ms) : Mt G yX11_init cX11_init 1 none 13 mc ms [.ref a0] μ (fun v μ' => v = none ∧ μ' = r) := by
  have hN : Nz μ μ 0 0 := ⟨rfl, rfl⟩
  have hC : 0 ≤ mc ∧ 0 ≤ ms := ⟨Nat.zero_le _, Nat.zero_le _⟩
  have hB : ∀ x : Mm, x = r → mm_N ((fun (q : Mm) => q) x) ≤ mm_N μ + mc ∧ mm_Z ((fun (q : Mm) => q) x) ≤ mm_Z μ + ms := fun x e => by subst e; exact ⟨hn, hz⟩
  refine Mt.of (by decide) (Nat.le_of_ble_eq_true rfl) ?_
  show Rn_X11_init G (fun v μ' => v = none ∧ μ' = r) mc ms 0 0 0 [(0, .ref a0)] [] μ
  obtain ⟨_, h⟩ := Sat_ifp (show Sat (f_X11_init a0 μ) (fun x => x = r) from ⟨_, hx, rfl⟩)
  refine r_aload_n dX11_init_0 0 rfl ?_
  refine r_objInit lo_X11_1 lo_in lo_co (Nat.le_of_ble_eq_true rfl) ⟨Nat.le_of_ble_eq_true rfl, Nat.le_of_ble_eq_true rfl⟩ dX11_init_1 ?_
  refine r_aload_n dX11_init_4 0 rfl ?_
  refine r_sipush (v := 900) dX11_init_5 (by decide) ?_
  obtain ⟨n8, e8, h⟩ := Sat_bind h
  have hN := nz_A (by decide) e8 hN
  have hC := bud_of hN (by
    obtain ⟨x, h, hx⟩ := id h
    have hk : Gr (n8.2) (n8.2) := Gr.rfl
    refine bud_le (?_ : Gr _ ((fun (q : Mm) => q) x)) (hB x hx)
    obtain ⟨μ10, e10, h⟩ := bd h
    have hk := Gr.after (Gr.of (kq_pfP e10)) hk
    obtain ⟨μ15, e15, h⟩ := bd h
    have hk := Gr.after (Gr.of (kq_pfI e15)) hk
    obtain ⟨n21, e21, h⟩ := bd h
    have hk := Gr.trans hk (gr_A (by decide) e21)
    obtain ⟨μ23, e23, h⟩ := bd h
    have hk := Gr.after (Gr.of (kq_pfP e23)) hk
    obtain ⟨n29, e29, h⟩ := bd h
    have hk := Gr.trans hk (gr_A (by decide) e29)
    obtain ⟨μ31, e31, h⟩ := bd h
    have hk := Gr.after (Gr.of (kq_pfP e31)) hk
    obtain ⟨n37, e37, h⟩ := bd h
    have hk := Gr.trans hk (gr_A (by decide) e37)
    obtain ⟨μ39, e39, h⟩ := bd h
    have hk := Gr.after (Gr.of (kq_pfP e39)) hk
    obtain ⟨n45, e45, h⟩ := bd h
    have hk := Gr.trans hk (gr_A (by decide) e45)
    obtain ⟨μ47, e47, h⟩ := bd h
    have hk := Gr.after (Gr.of (kq_pfP e47)) hk
    obtain ⟨n53, e53, h⟩ := bd h
    have hk := Gr.trans hk (gr_A (by decide) e53)
    obtain ⟨μ55, e55, h⟩ := bd h
    have hk := Gr.after (Gr.of (kq_pfP e55)) hk
    obtain ⟨n61, e61, h⟩ := bd h
    have hk := Gr.trans hk (gr_A (by decide) e61)
    obtain ⟨μ63, e63, h⟩ := bd h
    have hk := Gr.after (Gr.of (kq_pfP e63)) hk
    obtain ⟨n69, e69, h⟩ := bd h
    have hk := Gr.trans hk (gr_A (by decide) e69)
    obtain ⟨μ71, e71, h⟩ := bd h
    have hk := Gr.after (Gr.of (kq_pfP e71)) hk
    obtain ⟨n77, e77, h⟩ := bd h
    have hk := Gr.trans hk (gr_A (by decide) e77)
    obtain ⟨μ79, e79, h⟩ := bd h
    have hk := Gr.after (Gr.of (kq_pfP e79)) hk
    obtain ⟨n85, e85, h⟩ := bd h
    have hk := Gr.trans hk (gr_A (by decide) e85)
    obtain ⟨μ87, e87, h⟩ := bd h
    have hk := Gr.after (Gr.of (kq_pfP e87)) hk
    obtain ⟨n93, e93, h⟩ := bd h
    have hk := Gr.trans hk (gr_A (by decide) e93)
    obtain ⟨μ95, e95, h⟩ := bd h
    have hk := Gr.after (Gr.of (kq_pfP e95)) hk
    obtain ⟨n101, e101, h⟩ := bd h
    have hk := Gr.trans hk (gr_A (by decide) e101)
    obtain ⟨μ103, e103, h⟩ := bd h
    have hk := Gr.after (Gr.of (kq_pfP e103)) hk
    obtain ⟨n109, e109, h⟩ := bd h
    have hk := Gr.trans hk (gr_A (by decide) e109)
    obtain ⟨μ111, e111, h⟩ := bd h
    have hk := Gr.after (Gr.of (kq_pfP e111)) hk
    obtain ⟨n117, e117, h⟩ := bd h
    have hk := Gr.trans hk (gr_A (by decide) e117)
    obtain ⟨μ119, e119, h⟩ := bd h
    have hk := Gr.after (Gr.of (kq_pfP e119)) hk
    obtain ⟨n125, e125, h⟩ := bd h
    have hk := Gr.trans hk (gr_A (by decide) e125)
    obtain ⟨μ127, e127, h⟩ := bd h
    have hk := Gr.after (Gr.of (kq_pfP e127)) hk
    obtain ⟨n133, e133, h⟩ := bd h
    have hk := Gr.trans hk (gr_A (by decide) e133)
    obtain ⟨μ135, e135, h⟩ := bd h
    have hk := Gr.after (Gr.of (kq_pfP e135)) hk
    obtain ⟨n141, e141, h⟩ := bd h
    have hk := Gr.trans hk (gr_A (by decide) e141)
    obtain ⟨μ143, e143, h⟩ := bd h
    have hk := Gr.after (Gr.of (kq_pfP e143)) hk
    obtain ⟨n149, e149, h⟩ := bd h
    have hk := Gr.trans hk (gr_A (by decide) e149)
    obtain ⟨μ151, e151, h⟩ := bd h
    have hk := Gr.after (Gr.of (kq_pfP e151)) hk
    obtain ⟨n157, e157, h⟩ := bd h
    have hk := Gr.trans hk (gr_A (by decide) e157)
    obtain ⟨μ159, e159, h⟩ := bd h
    have hk := Gr.after (Gr.of (kq_pfP e159)) hk
    obtain ⟨n166, e166, h⟩ := bd h
    have hk := Gr.trans hk (gr_A (by decide) e166)
    obtain ⟨μ168, e168, h⟩ := bd h
    have hk := Gr.after (Gr.of (kq_pfP e168)) hk
    obtain ⟨n174, e174, h⟩ := bd h
    have hk := Gr.trans hk (gr_A (by decide) e174)
    obtain ⟨μ176, e176, h⟩ := bd h
    have hk := Gr.after (Gr.of (kq_pfP e176)) hk
    obtain ⟨n182, e182, h⟩ := bd h
    have hk := Gr.trans hk (gr_A (by decide) e182)
    obtain ⟨μ184, e184, h⟩ := bd h
    have hk := Gr.after (Gr.of (kq_pfP e184)) hk
    obtain ⟨n191, e191, h⟩ := bd h
    have hk := Gr.trans hk (gr_A (by decide) e191)
    obtain ⟨μ193, e193, h⟩ := bd h
    have hk := Gr.after (Gr.of (kq_pfP e193)) hk
    obtain ⟨n200, e200, h⟩ := bd h
    have hk := Gr.trans hk (gr_A (by decide) e200)
    obtain ⟨μ202, e202, h⟩ := bd h
    have hk := Gr.after (Gr.of (kq_pfP e202)) hk
    obtain ⟨n209, e209, h⟩ := bd h
    have hk := Gr.trans hk (gr_A (by decide) e209)
    obtain ⟨μ211, e211, h⟩ := bd h
    have hk := Gr.after (Gr.of (kq_pfP e211)) hk
    obtain ⟨n217, e217, h⟩ := bd h
    have hk := Gr.trans hk (gr_A (by decide) e217)
    obtain ⟨μ219, e219, h⟩ := bd h
    have hk := Gr.after (Gr.of (kq_pfP e219)) hk
    obtain ⟨n225, e225, h⟩ := bd h
    have hk := Gr.trans hk (gr_A (by decide) e225)
    obtain ⟨μ227, e227, h⟩ := bd h
    have hk := Gr.after (Gr.of (kq_pfP e227)) hk
    obtain ⟨n233, e233, h⟩ := bd h
    have hk := Gr.trans hk (gr_A (by decide) e233)
    obtain ⟨μ235, e235, h⟩ := bd h
    have hk := Gr.after (Gr.of (kq_pfP e235)) hk
    obtain ⟨n241, e241, h⟩ := bd h
    have hk := Gr.trans hk (gr_A (by decide) e241)
    obtain ⟨μ243, e243, h⟩ := bd h
    have hk := Gr.after (Gr.of (kq_pfP e243)) hk
    obtain ⟨n249, e249, h⟩ := bd h
    have hk := Gr.trans hk (gr_A (by decide) e249)
    obtain ⟨μ251, e251, h⟩ := bd h
    have hk := Gr.after (Gr.of (kq_pfP e251)) hk
    obtain ⟨n257, e257, h⟩ := bd h
    have hk := Gr.trans hk (gr_A (by decide) e257)
    obtain ⟨μ259, e259, h⟩ := bd h
    have hk := Gr.after (Gr.of (kq_pfP e259)) hk
    obtain ⟨n265, e265, h⟩ := bd h
    have hk := Gr.trans hk (gr_A (by decide) e265)
    obtain ⟨μ267, e267, h⟩ := bd h
    have hk := Gr.after (Gr.of (kq_pfP e267)) hk
    obtain ⟨n273, e273, h⟩ := bd h
    have hk := Gr.trans hk (gr_A (by decide) e273)
    obtain ⟨μ275, e275, h⟩ := bd h
    have hk := Gr.after (Gr.of (kq_pfP e275)) hk
    obtain ⟨n282, e282, h⟩ := bd h
    have hk := Gr.trans hk (gr_A (by decide) e282)
    obtain ⟨μ284, e284, h⟩ := bd h
    have hk := Gr.after (Gr.of (kq_pfP e284)) hk
    obtain ⟨n291, e291, h⟩ := bd h
    have hk := Gr.trans hk (gr_A (by decide) e291)
    obtain ⟨μ293, e293, h⟩ := bd h
    have hk := Gr.after (Gr.of (kq_pfP e293)) hk
    obtain ⟨n299, e299, h⟩ := bd h
    have hk := Gr.trans hk (gr_A (by decide) e299)
    obtain ⟨μ301, e301, h⟩ := bd h
    have hk := Gr.after (Gr.of (kq_pfP e301)) hk
    obtain ⟨n307, e307, h⟩ := bd h
    have hk := Gr.trans hk (gr_A (by decide) e307)
    obtain ⟨μ309, e309, h⟩ := bd h
    have hk := Gr.after (Gr.of (kq_pfP e309)) hk
    obtain ⟨n315, e315, h⟩ := bd h
    have hk := Gr.trans hk (gr_A (by decide) e315)
    obtain ⟨μ317, e317, h⟩ := bd h
    have hk := Gr.after (Gr.of (kq_pfP e317)) hk
    obtain ⟨n324, e324, h⟩ := bd h
    have hk := Gr.trans hk (gr_A (by decide) e324)
    obtain ⟨μ326, e326, h⟩ := bd h
    have hk := Gr.after (Gr.of (kq_pfP e326)) hk
    obtain ⟨n332, e332, h⟩ := bd h
    have hk := Gr.trans hk (gr_A (by decide) e332)
    obtain ⟨μ334, e334, h⟩ := bd h
    have hk := Gr.after (Gr.of (kq_pfP e334)) hk
    obtain ⟨n339, e339, h⟩ := bd h
    have hk := Gr.trans hk (gr_A (by decide) e339)
    obtain ⟨μ341, e341, h⟩ := bd h
    have hk := Gr.after (Gr.of (kq_pfP e341)) hk
    obtain ⟨n346, e346, h⟩ := bd h
    have hk := Gr.trans hk (gr_A (by decide) e346)
    obtain ⟨μ348, e348, h⟩ := bd h
    have hk := Gr.after (Gr.of (kq_pfP e348)) hk
    obtain ⟨n353, e353, h⟩ := bd h
    have hk := Gr.trans hk (gr_A (by decide) e353)
    obtain ⟨μ355, e355, h⟩ := bd h
    have hk := Gr.after (Gr.of (kq_pfP e355)) hk
    obtain ⟨n360, e360, h⟩ := bd h
    have hk := Gr.trans hk (gr_A (by decide) e360)
    obtain ⟨μ362, e362, h⟩ := bd h
    have hk := Gr.after (Gr.of (kq_pfP e362)) hk
    obtain ⟨x366, e366, h⟩ := bd h
    have hk := Gr.after (Gr.of (t_X11_begin e366)) hk
    obtain ⟨x370, e370, h⟩ := bd h
    have hk := Gr.after (Gr.of (t_X11_settle e370)) hk
    have h := Option.some.inj h
    subst h
    exact hk)
  refine r_newarray (t := 22) (by decide) rfl e8 ka_22 hC dX11_init_8 ?_
  obtain ⟨μ10, e10, h⟩ := Sat_bind h
  refine r_putP fk_X11_7 (Or.inr ⟨rfl, rfl, rfl, fl_X11_7⟩) rfl e10 dX11_init_10 ?_
  have hN := nz_tl (kq_pfP e10) hN
  refine r_aload_n dX11_init_13 0 rfl ?_
  refine r_iconst (v := -1) dX11_init_14 (by decide) ?_
  obtain ⟨μ15, e15, h⟩ := Sat_bind h
  refine r_putI fk_X11_13 rfl rfl e15 dX11_init_15 ?_
  have hN := nz_tl (kq_pfI e15) hN
  refine r_aload_n dX11_init_18 0 rfl ?_
  refine r_bipush (v := 22) dX11_init_19 (by decide) ?_
  obtain ⟨n21, e21, h⟩ := Sat_bind h
  have hN := nz_A (by decide) e21 hN
  have hC := bud_of hN (by
    obtain ⟨x, h, hx⟩ := id h
    have hk : Gr (n21.2) (n21.2) := Gr.rfl
    refine bud_le (?_ : Gr _ ((fun (q : Mm) => q) x)) (hB x hx)
    obtain ⟨μ23, e23, h⟩ := bd h
    have hk := Gr.after (Gr.of (kq_pfP e23)) hk
    obtain ⟨n29, e29, h⟩ := bd h
    have hk := Gr.trans hk (gr_A (by decide) e29)
    obtain ⟨μ31, e31, h⟩ := bd h
    have hk := Gr.after (Gr.of (kq_pfP e31)) hk
    obtain ⟨n37, e37, h⟩ := bd h
    have hk := Gr.trans hk (gr_A (by decide) e37)
    obtain ⟨μ39, e39, h⟩ := bd h
    have hk := Gr.after (Gr.of (kq_pfP e39)) hk
    obtain ⟨n45, e45, h⟩ := bd h
    have hk := Gr.trans hk (gr_A (by decide) e45)
    obtain ⟨μ47, e47, h⟩ := bd h
    have hk := Gr.after (Gr.of (kq_pfP e47)) hk
    obtain ⟨n53, e53, h⟩ := bd h
    have hk := Gr.trans hk (gr_A (by decide) e53)
    obtain ⟨μ55, e55, h⟩ := bd h
    have hk := Gr.after (Gr.of (kq_pfP e55)) hk
    obtain ⟨n61, e61, h⟩ := bd h
    have hk := Gr.trans hk (gr_A (by decide) e61)
    obtain ⟨μ63, e63, h⟩ := bd h
    have hk := Gr.after (Gr.of (kq_pfP e63)) hk
    obtain ⟨n69, e69, h⟩ := bd h
    have hk := Gr.trans hk (gr_A (by decide) e69)
    obtain ⟨μ71, e71, h⟩ := bd h
    have hk := Gr.after (Gr.of (kq_pfP e71)) hk
    obtain ⟨n77, e77, h⟩ := bd h
    have hk := Gr.trans hk (gr_A (by decide) e77)
    obtain ⟨μ79, e79, h⟩ := bd h
    have hk := Gr.after (Gr.of (kq_pfP e79)) hk
    obtain ⟨n85, e85, h⟩ := bd h
    have hk := Gr.trans hk (gr_A (by decide) e85)
    obtain ⟨μ87, e87, h⟩ := bd h
    have hk := Gr.after (Gr.of (kq_pfP e87)) hk
    obtain ⟨n93, e93, h⟩ := bd h
    have hk := Gr.trans hk (gr_A (by decide) e93)
    obtain ⟨μ95, e95, h⟩ := bd h
    have hk := Gr.after (Gr.of (kq_pfP e95)) hk
    obtain ⟨n101, e101, h⟩ := bd h
    have hk := Gr.trans hk (gr_A (by decide) e101)
    obtain ⟨μ103, e103, h⟩ := bd h
    have hk := Gr.after (Gr.of (kq_pfP e103)) hk
    obtain ⟨n109, e109, h⟩ := bd h
    have hk := Gr.trans hk (gr_A (by decide) e109)
    obtain ⟨μ111, e111, h⟩ := bd h
    have hk := Gr.after (Gr.of (kq_pfP e111)) hk
    obtain ⟨n117, e117, h⟩ := bd h
    have hk := Gr.trans hk (gr_A (by decide) e117)
    obtain ⟨μ119, e119, h⟩ := bd h
    have hk := Gr.after (Gr.of (kq_pfP e119)) hk
    obtain ⟨n125, e125, h⟩ := bd h
    have hk := Gr.trans hk (gr_A (by decide) e125)
    obtain ⟨μ127, e127, h⟩ := bd h
    have hk := Gr.after (Gr.of (kq_pfP e127)) hk
    obtain ⟨n133, e133, h⟩ := bd h
    have hk := Gr.trans hk (gr_A (by decide) e133)
    obtain ⟨μ135, e135, h⟩ := bd h
    have hk := Gr.after (Gr.of (kq_pfP e135)) hk
    obtain ⟨n141, e141, h⟩ := bd h
    have hk := Gr.trans hk (gr_A (by decide) e141)
    obtain ⟨μ143, e143, h⟩ := bd h
    have hk := Gr.after (Gr.of (kq_pfP e143)) hk
    obtain ⟨n149, e149, h⟩ := bd h
    have hk := Gr.trans hk (gr_A (by decide) e149)
    obtain ⟨μ151, e151, h⟩ := bd h
    have hk := Gr.after (Gr.of (kq_pfP e151)) hk
    obtain ⟨n157, e157, h⟩ := bd h
    have hk := Gr.trans hk (gr_A (by decide) e157)
    obtain ⟨μ159, e159, h⟩ := bd h
    have hk := Gr.after (Gr.of (kq_pfP e159)) hk
    obtain ⟨n166, e166, h⟩ := bd h
    have hk := Gr.trans hk (gr_A (by decide) e166)
    obtain ⟨μ168, e168, h⟩ := bd h
    have hk := Gr.after (Gr.of (kq_pfP e168)) hk
    obtain ⟨n174, e174, h⟩ := bd h
    have hk := Gr.trans hk (gr_A (by decide) e174)
    obtain ⟨μ176, e176, h⟩ := bd h
    have hk := Gr.after (Gr.of (kq_pfP e176)) hk
    obtain ⟨n182, e182, h⟩ := bd h
    have hk := Gr.trans hk (gr_A (by decide) e182)
    obtain ⟨μ184, e184, h⟩ := bd h
    have hk := Gr.after (Gr.of (kq_pfP e184)) hk
    obtain ⟨n191, e191, h⟩ := bd h
    have hk := Gr.trans hk (gr_A (by decide) e191)
    obtain ⟨μ193, e193, h⟩ := bd h
    have hk := Gr.after (Gr.of (kq_pfP e193)) hk
    obtain ⟨n200, e200, h⟩ := bd h
    have hk := Gr.trans hk (gr_A (by decide) e200)
    obtain ⟨μ202, e202, h⟩ := bd h
    have hk := Gr.after (Gr.of (kq_pfP e202)) hk
    obtain ⟨n209, e209, h⟩ := bd h
    have hk := Gr.trans hk (gr_A (by decide) e209)
    obtain ⟨μ211, e211, h⟩ := bd h
    have hk := Gr.after (Gr.of (kq_pfP e211)) hk
    obtain ⟨n217, e217, h⟩ := bd h
    have hk := Gr.trans hk (gr_A (by decide) e217)
    obtain ⟨μ219, e219, h⟩ := bd h
    have hk := Gr.after (Gr.of (kq_pfP e219)) hk
    obtain ⟨n225, e225, h⟩ := bd h
    have hk := Gr.trans hk (gr_A (by decide) e225)
    obtain ⟨μ227, e227, h⟩ := bd h
    have hk := Gr.after (Gr.of (kq_pfP e227)) hk
    obtain ⟨n233, e233, h⟩ := bd h
    have hk := Gr.trans hk (gr_A (by decide) e233)
    obtain ⟨μ235, e235, h⟩ := bd h
    have hk := Gr.after (Gr.of (kq_pfP e235)) hk
    obtain ⟨n241, e241, h⟩ := bd h
    have hk := Gr.trans hk (gr_A (by decide) e241)
    obtain ⟨μ243, e243, h⟩ := bd h
    have hk := Gr.after (Gr.of (kq_pfP e243)) hk
    obtain ⟨n249, e249, h⟩ := bd h
    have hk := Gr.trans hk (gr_A (by decide) e249)
    obtain ⟨μ251, e251, h⟩ := bd h
    have hk := Gr.after (Gr.of (kq_pfP e251)) hk
    obtain ⟨n257, e257, h⟩ := bd h
    have hk := Gr.trans hk (gr_A (by decide) e257)
    obtain ⟨μ259, e259, h⟩ := bd h
    have hk := Gr.after (Gr.of (kq_pfP e259)) hk
    obtain ⟨n265, e265, h⟩ := bd h
    have hk := Gr.trans hk (gr_A (by decide) e265)
    obtain ⟨μ267, e267, h⟩ := bd h
    have hk := Gr.after (Gr.of (kq_pfP e267)) hk
    obtain ⟨n273, e273, h⟩ := bd h
    have hk := Gr.trans hk (gr_A (by decide) e273)
    obtain ⟨μ275, e275, h⟩ := bd h
    have hk := Gr.after (Gr.of (kq_pfP e275)) hk
    obtain ⟨n282, e282, h⟩ := bd h
    have hk := Gr.trans hk (gr_A (by decide) e282)
    obtain ⟨μ284, e284, h⟩ := bd h
    have hk := Gr.after (Gr.of (kq_pfP e284)) hk
    obtain ⟨n291, e291, h⟩ := bd h
    have hk := Gr.trans hk (gr_A (by decide) e291)
    obtain ⟨μ293, e293, h⟩ := bd h
    have hk := Gr.after (Gr.of (kq_pfP e293)) hk
    obtain ⟨n299, e299, h⟩ := bd h
    have hk := Gr.trans hk (gr_A (by decide) e299)
    obtain ⟨μ301, e301, h⟩ := bd h
    have hk := Gr.after (Gr.of (kq_pfP e301)) hk
    obtain ⟨n307, e307, h⟩ := bd h
    have hk := Gr.trans hk (gr_A (by decide) e307)
    obtain ⟨μ309, e309, h⟩ := bd h
    have hk := Gr.after (Gr.of (kq_pfP e309)) hk
    obtain ⟨n315, e315, h⟩ := bd h
    have hk := Gr.trans hk (gr_A (by decide) e315)
    obtain ⟨μ317, e317, h⟩ := bd h
    have hk := Gr.after (Gr.of (kq_pfP e317)) hk
    obtain ⟨n324, e324, h⟩ := bd h
    have hk := Gr.trans hk (gr_A (by decide) e324)
    obtain ⟨μ326, e326, h⟩ := bd h
    have hk := Gr.after (Gr.of (kq_pfP e326)) hk
    obtain ⟨n332, e332, h⟩ := bd h
    have hk := Gr.trans hk (gr_A (by decide) e332)
    obtain ⟨μ334, e334, h⟩ := bd h
    have hk := Gr.after (Gr.of (kq_pfP e334)) hk
    obtain ⟨n339, e339, h⟩ := bd h
    have hk := Gr.trans hk (gr_A (by decide) e339)
    obtain ⟨μ341, e341, h⟩ := bd h
    have hk := Gr.after (Gr.of (kq_pfP e341)) hk
    obtain ⟨n346, e346, h⟩ := bd h
    have hk := Gr.trans hk (gr_A (by decide) e346)
    obtain ⟨μ348, e348, h⟩ := bd h
    have hk := Gr.after (Gr.of (kq_pfP e348)) hk
    obtain ⟨n353, e353, h⟩ := bd h
    have hk := Gr.trans hk (gr_A (by decide) e353)
    obtain ⟨μ355, e355, h⟩ := bd h
    have hk := Gr.after (Gr.of (kq_pfP e355)) hk
    obtain ⟨n360, e360, h⟩ := bd h
    have hk := Gr.trans hk (gr_A (by decide) e360)
    obtain ⟨μ362, e362, h⟩ := bd h
    have hk := Gr.after (Gr.of (kq_pfP e362)) hk
    obtain ⟨x366, e366, h⟩ := bd h
    have hk := Gr.after (Gr.of (t_X11_begin e366)) hk
    obtain ⟨x370, e370, h⟩ := bd h
    have hk := Gr.after (Gr.of (t_X11_settle e370)) hk
    have h := Option.some.inj h
    subst h
    exact hk)
  refine r_newarray (t := 20) (by decide) rfl e21 ka_20 hC dX11_init_21 ?_
  obtain ⟨μ23, e23, h⟩ := Sat_bind h
  refine r_putP fk_X11_17 (Or.inr ⟨rfl, rfl, rfl, fl_X11_17⟩) rfl e23 dX11_init_23 ?_
  have hN := nz_tl (kq_pfP e23) hN
  refine r_aload_n dX11_init_26 0 rfl ?_
  refine r_bipush (v := 8) dX11_init_27 (by decide) ?_
  obtain ⟨n29, e29, h⟩ := Sat_bind h
  have hN := nz_A (by decide) e29 hN
  have hC := bud_of hN (by
    obtain ⟨x, h, hx⟩ := id h
    have hk : Gr (n29.2) (n29.2) := Gr.rfl
    refine bud_le (?_ : Gr _ ((fun (q : Mm) => q) x)) (hB x hx)
    obtain ⟨μ31, e31, h⟩ := bd h
    have hk := Gr.after (Gr.of (kq_pfP e31)) hk
    obtain ⟨n37, e37, h⟩ := bd h
    have hk := Gr.trans hk (gr_A (by decide) e37)
    obtain ⟨μ39, e39, h⟩ := bd h
    have hk := Gr.after (Gr.of (kq_pfP e39)) hk
    obtain ⟨n45, e45, h⟩ := bd h
    have hk := Gr.trans hk (gr_A (by decide) e45)
    obtain ⟨μ47, e47, h⟩ := bd h
    have hk := Gr.after (Gr.of (kq_pfP e47)) hk
    obtain ⟨n53, e53, h⟩ := bd h
    have hk := Gr.trans hk (gr_A (by decide) e53)
    obtain ⟨μ55, e55, h⟩ := bd h
    have hk := Gr.after (Gr.of (kq_pfP e55)) hk
    obtain ⟨n61, e61, h⟩ := bd h
    have hk := Gr.trans hk (gr_A (by decide) e61)
    obtain ⟨μ63, e63, h⟩ := bd h
    have hk := Gr.after (Gr.of (kq_pfP e63)) hk
    obtain ⟨n69, e69, h⟩ := bd h
    have hk := Gr.trans hk (gr_A (by decide) e69)
    obtain ⟨μ71, e71, h⟩ := bd h
    have hk := Gr.after (Gr.of (kq_pfP e71)) hk
    obtain ⟨n77, e77, h⟩ := bd h
    have hk := Gr.trans hk (gr_A (by decide) e77)
    obtain ⟨μ79, e79, h⟩ := bd h
    have hk := Gr.after (Gr.of (kq_pfP e79)) hk
    obtain ⟨n85, e85, h⟩ := bd h
    have hk := Gr.trans hk (gr_A (by decide) e85)
    obtain ⟨μ87, e87, h⟩ := bd h
    have hk := Gr.after (Gr.of (kq_pfP e87)) hk
    obtain ⟨n93, e93, h⟩ := bd h
    have hk := Gr.trans hk (gr_A (by decide) e93)
    obtain ⟨μ95, e95, h⟩ := bd h
    have hk := Gr.after (Gr.of (kq_pfP e95)) hk
    obtain ⟨n101, e101, h⟩ := bd h
    have hk := Gr.trans hk (gr_A (by decide) e101)
    obtain ⟨μ103, e103, h⟩ := bd h
    have hk := Gr.after (Gr.of (kq_pfP e103)) hk
    obtain ⟨n109, e109, h⟩ := bd h
    have hk := Gr.trans hk (gr_A (by decide) e109)
    obtain ⟨μ111, e111, h⟩ := bd h
    have hk := Gr.after (Gr.of (kq_pfP e111)) hk
    obtain ⟨n117, e117, h⟩ := bd h
    have hk := Gr.trans hk (gr_A (by decide) e117)
    obtain ⟨μ119, e119, h⟩ := bd h
    have hk := Gr.after (Gr.of (kq_pfP e119)) hk
    obtain ⟨n125, e125, h⟩ := bd h
    have hk := Gr.trans hk (gr_A (by decide) e125)
    obtain ⟨μ127, e127, h⟩ := bd h
    have hk := Gr.after (Gr.of (kq_pfP e127)) hk
    obtain ⟨n133, e133, h⟩ := bd h
    have hk := Gr.trans hk (gr_A (by decide) e133)
    obtain ⟨μ135, e135, h⟩ := bd h
    have hk := Gr.after (Gr.of (kq_pfP e135)) hk
    obtain ⟨n141, e141, h⟩ := bd h
    have hk := Gr.trans hk (gr_A (by decide) e141)
    obtain ⟨μ143, e143, h⟩ := bd h
    have hk := Gr.after (Gr.of (kq_pfP e143)) hk
    obtain ⟨n149, e149, h⟩ := bd h
    have hk := Gr.trans hk (gr_A (by decide) e149)
    obtain ⟨μ151, e151, h⟩ := bd h
    have hk := Gr.after (Gr.of (kq_pfP e151)) hk
    obtain ⟨n157, e157, h⟩ := bd h
    have hk := Gr.trans hk (gr_A (by decide) e157)
    obtain ⟨μ159, e159, h⟩ := bd h
    have hk := Gr.after (Gr.of (kq_pfP e159)) hk
    obtain ⟨n166, e166, h⟩ := bd h
    have hk := Gr.trans hk (gr_A (by decide) e166)
    obtain ⟨μ168, e168, h⟩ := bd h
    have hk := Gr.after (Gr.of (kq_pfP e168)) hk
    obtain ⟨n174, e174, h⟩ := bd h
    have hk := Gr.trans hk (gr_A (by decide) e174)
    obtain ⟨μ176, e176, h⟩ := bd h
    have hk := Gr.after (Gr.of (kq_pfP e176)) hk
    obtain ⟨n182, e182, h⟩ := bd h
    have hk := Gr.trans hk (gr_A (by decide) e182)
    obtain ⟨μ184, e184, h⟩ := bd h
    have hk := Gr.after (Gr.of (kq_pfP e184)) hk
    obtain ⟨n191, e191, h⟩ := bd h
    have hk := Gr.trans hk (gr_A (by decide) e191)
    obtain ⟨μ193, e193, h⟩ := bd h
    have hk := Gr.after (Gr.of (kq_pfP e193)) hk
    obtain ⟨n200, e200, h⟩ := bd h
    have hk := Gr.trans hk (gr_A (by decide) e200)
    obtain ⟨μ202, e202, h⟩ := bd h
    have hk := Gr.after (Gr.of (kq_pfP e202)) hk
    obtain ⟨n209, e209, h⟩ := bd h
    have hk := Gr.trans hk (gr_A (by decide) e209)
    obtain ⟨μ211, e211, h⟩ := bd h
    have hk := Gr.after (Gr.of (kq_pfP e211)) hk
    obtain ⟨n217, e217, h⟩ := bd h
    have hk := Gr.trans hk (gr_A (by decide) e217)
    obtain ⟨μ219, e219, h⟩ := bd h
    have hk := Gr.after (Gr.of (kq_pfP e219)) hk
    obtain ⟨n225, e225, h⟩ := bd h
    have hk := Gr.trans hk (gr_A (by decide) e225)
    obtain ⟨μ227, e227, h⟩ := bd h
    have hk := Gr.after (Gr.of (kq_pfP e227)) hk
    obtain ⟨n233, e233, h⟩ := bd h
    have hk := Gr.trans hk (gr_A (by decide) e233)
    obtain ⟨μ235, e235, h⟩ := bd h
    have hk := Gr.after (Gr.of (kq_pfP e235)) hk
    obtain ⟨n241, e241, h⟩ := bd h
    have hk := Gr.trans hk (gr_A (by decide) e241)
    obtain ⟨μ243, e243, h⟩ := bd h
    have hk := Gr.after (Gr.of (kq_pfP e243)) hk
    obtain ⟨n249, e249, h⟩ := bd h
    have hk := Gr.trans hk (gr_A (by decide) e249)
    obtain ⟨μ251, e251, h⟩ := bd h
    have hk := Gr.after (Gr.of (kq_pfP e251)) hk
    obtain ⟨n257, e257, h⟩ := bd h
    have hk := Gr.trans hk (gr_A (by decide) e257)
    obtain ⟨μ259, e259, h⟩ := bd h
    have hk := Gr.after (Gr.of (kq_pfP e259)) hk
    obtain ⟨n265, e265, h⟩ := bd h
    have hk := Gr.trans hk (gr_A (by decide) e265)
    obtain ⟨μ267, e267, h⟩ := bd h
    have hk := Gr.after (Gr.of (kq_pfP e267)) hk
    obtain ⟨n273, e273, h⟩ := bd h
    have hk := Gr.trans hk (gr_A (by decide) e273)
    obtain ⟨μ275, e275, h⟩ := bd h
    have hk := Gr.after (Gr.of (kq_pfP e275)) hk
    obtain ⟨n282, e282, h⟩ := bd h
    have hk := Gr.trans hk (gr_A (by decide) e282)
    obtain ⟨μ284, e284, h⟩ := bd h
    have hk := Gr.after (Gr.of (kq_pfP e284)) hk
    obtain ⟨n291, e291, h⟩ := bd h
    have hk := Gr.trans hk (gr_A (by decide) e291)
    obtain ⟨μ293, e293, h⟩ := bd h
    have hk := Gr.after (Gr.of (kq_pfP e293)) hk
    obtain ⟨n299, e299, h⟩ := bd h
    have hk := Gr.trans hk (gr_A (by decide) e299)
    obtain ⟨μ301, e301, h⟩ := bd h
    have hk := Gr.after (Gr.of (kq_pfP e301)) hk
    obtain ⟨n307, e307, h⟩ := bd h
    have hk := Gr.trans hk (gr_A (by decide) e307)
    obtain ⟨μ309, e309, h⟩ := bd h
    have hk := Gr.after (Gr.of (kq_pfP e309)) hk
    obtain ⟨n315, e315, h⟩ := bd h
    have hk := Gr.trans hk (gr_A (by decide) e315)
    obtain ⟨μ317, e317, h⟩ := bd h
    have hk := Gr.after (Gr.of (kq_pfP e317)) hk
    obtain ⟨n324, e324, h⟩ := bd h
    have hk := Gr.trans hk (gr_A (by decide) e324)
    obtain ⟨μ326, e326, h⟩ := bd h
    have hk := Gr.after (Gr.of (kq_pfP e326)) hk
    obtain ⟨n332, e332, h⟩ := bd h
    have hk := Gr.trans hk (gr_A (by decide) e332)
    obtain ⟨μ334, e334, h⟩ := bd h
    have hk := Gr.after (Gr.of (kq_pfP e334)) hk
    obtain ⟨n339, e339, h⟩ := bd h
    have hk := Gr.trans hk (gr_A (by decide) e339)
    obtain ⟨μ341, e341, h⟩ := bd h
    have hk := Gr.after (Gr.of (kq_pfP e341)) hk
    obtain ⟨n346, e346, h⟩ := bd h
    have hk := Gr.trans hk (gr_A (by decide) e346)
    obtain ⟨μ348, e348, h⟩ := bd h
    have hk := Gr.after (Gr.of (kq_pfP e348)) hk
    obtain ⟨n353, e353, h⟩ := bd h
    have hk := Gr.trans hk (gr_A (by decide) e353)
    obtain ⟨μ355, e355, h⟩ := bd h
    have hk := Gr.after (Gr.of (kq_pfP e355)) hk
    obtain ⟨n360, e360, h⟩ := bd h
    have hk := Gr.trans hk (gr_A (by decide) e360)
    obtain ⟨μ362, e362, h⟩ := bd h
    have hk := Gr.after (Gr.of (kq_pfP e362)) hk
    obtain ⟨x366, e366, h⟩ := bd h
    have hk := Gr.after (Gr.of (t_X11_begin e366)) hk
    obtain ⟨x370, e370, h⟩ := bd h
    have hk := Gr.after (Gr.of (t_X11_settle e370)) hk
    have h := Option.some.inj h
    subst h
    exact hk)
  refine r_newarray (t := 21) (by decide) rfl e29 ka_21 hC dX11_init_29 ?_
  obtain ⟨μ31, e31, h⟩ := Sat_bind h
  refine r_putP fk_X11_21 (Or.inr ⟨rfl, rfl, rfl, fl_X11_21⟩) rfl e31 dX11_init_31 ?_
  have hN := nz_tl (kq_pfP e31) hN
  refine r_aload_n dX11_init_34 0 rfl ?_
  refine r_bipush (v := 16) dX11_init_35 (by decide) ?_
  obtain ⟨n37, e37, h⟩ := Sat_bind h
  have hN := nz_A (by decide) e37 hN
  have hC := bud_of hN (by
    obtain ⟨x, h, hx⟩ := id h
    have hk : Gr (n37.2) (n37.2) := Gr.rfl
    refine bud_le (?_ : Gr _ ((fun (q : Mm) => q) x)) (hB x hx)
    obtain ⟨μ39, e39, h⟩ := bd h
    have hk := Gr.after (Gr.of (kq_pfP e39)) hk
    obtain ⟨n45, e45, h⟩ := bd h
    have hk := Gr.trans hk (gr_A (by decide) e45)
    obtain ⟨μ47, e47, h⟩ := bd h
    have hk := Gr.after (Gr.of (kq_pfP e47)) hk
    obtain ⟨n53, e53, h⟩ := bd h
    have hk := Gr.trans hk (gr_A (by decide) e53)
    obtain ⟨μ55, e55, h⟩ := bd h
    have hk := Gr.after (Gr.of (kq_pfP e55)) hk
    obtain ⟨n61, e61, h⟩ := bd h
    have hk := Gr.trans hk (gr_A (by decide) e61)
    obtain ⟨μ63, e63, h⟩ := bd h
    have hk := Gr.after (Gr.of (kq_pfP e63)) hk
    obtain ⟨n69, e69, h⟩ := bd h
    have hk := Gr.trans hk (gr_A (by decide) e69)
    obtain ⟨μ71, e71, h⟩ := bd h
    have hk := Gr.after (Gr.of (kq_pfP e71)) hk
    obtain ⟨n77, e77, h⟩ := bd h
    have hk := Gr.trans hk (gr_A (by decide) e77)
    obtain ⟨μ79, e79, h⟩ := bd h
    have hk := Gr.after (Gr.of (kq_pfP e79)) hk
    obtain ⟨n85, e85, h⟩ := bd h
    have hk := Gr.trans hk (gr_A (by decide) e85)
    obtain ⟨μ87, e87, h⟩ := bd h
    have hk := Gr.after (Gr.of (kq_pfP e87)) hk
    obtain ⟨n93, e93, h⟩ := bd h
    have hk := Gr.trans hk (gr_A (by decide) e93)
    obtain ⟨μ95, e95, h⟩ := bd h
    have hk := Gr.after (Gr.of (kq_pfP e95)) hk
    obtain ⟨n101, e101, h⟩ := bd h
    have hk := Gr.trans hk (gr_A (by decide) e101)
    obtain ⟨μ103, e103, h⟩ := bd h
    have hk := Gr.after (Gr.of (kq_pfP e103)) hk
    obtain ⟨n109, e109, h⟩ := bd h
    have hk := Gr.trans hk (gr_A (by decide) e109)
    obtain ⟨μ111, e111, h⟩ := bd h
    have hk := Gr.after (Gr.of (kq_pfP e111)) hk
    obtain ⟨n117, e117, h⟩ := bd h
    have hk := Gr.trans hk (gr_A (by decide) e117)
    obtain ⟨μ119, e119, h⟩ := bd h
    have hk := Gr.after (Gr.of (kq_pfP e119)) hk
    obtain ⟨n125, e125, h⟩ := bd h
    have hk := Gr.trans hk (gr_A (by decide) e125)
    obtain ⟨μ127, e127, h⟩ := bd h
    have hk := Gr.after (Gr.of (kq_pfP e127)) hk
    obtain ⟨n133, e133, h⟩ := bd h
    have hk := Gr.trans hk (gr_A (by decide) e133)
    obtain ⟨μ135, e135, h⟩ := bd h
    have hk := Gr.after (Gr.of (kq_pfP e135)) hk
    obtain ⟨n141, e141, h⟩ := bd h
    have hk := Gr.trans hk (gr_A (by decide) e141)
    obtain ⟨μ143, e143, h⟩ := bd h
    have hk := Gr.after (Gr.of (kq_pfP e143)) hk
    obtain ⟨n149, e149, h⟩ := bd h
    have hk := Gr.trans hk (gr_A (by decide) e149)
    obtain ⟨μ151, e151, h⟩ := bd h
    have hk := Gr.after (Gr.of (kq_pfP e151)) hk
    obtain ⟨n157, e157, h⟩ := bd h
    have hk := Gr.trans hk (gr_A (by decide) e157)
    obtain ⟨μ159, e159, h⟩ := bd h
    have hk := Gr.after (Gr.of (kq_pfP e159)) hk
    obtain ⟨n166, e166, h⟩ := bd h
    have hk := Gr.trans hk (gr_A (by decide) e166)
    obtain ⟨μ168, e168, h⟩ := bd h
    have hk := Gr.after (Gr.of (kq_pfP e168)) hk
    obtain ⟨n174, e174, h⟩ := bd h
    have hk := Gr.trans hk (gr_A (by decide) e174)
    obtain ⟨μ176, e176, h⟩ := bd h
    have hk := Gr.after (Gr.of (kq_pfP e176)) hk
    obtain ⟨n182, e182, h⟩ := bd h
    have hk := Gr.trans hk (gr_A (by decide) e182)
    obtain ⟨μ184, e184, h⟩ := bd h
    have hk := Gr.after (Gr.of (kq_pfP e184)) hk
    obtain ⟨n191, e191, h⟩ := bd h
    have hk := Gr.trans hk (gr_A (by decide) e191)
    obtain ⟨μ193, e193, h⟩ := bd h
    have hk := Gr.after (Gr.of (kq_pfP e193)) hk
    obtain ⟨n200, e200, h⟩ := bd h
    have hk := Gr.trans hk (gr_A (by decide) e200)
    obtain ⟨μ202, e202, h⟩ := bd h
    have hk := Gr.after (Gr.of (kq_pfP e202)) hk
    obtain ⟨n209, e209, h⟩ := bd h
    have hk := Gr.trans hk (gr_A (by decide) e209)
    obtain ⟨μ211, e211, h⟩ := bd h
    have hk := Gr.after (Gr.of (kq_pfP e211)) hk
    obtain ⟨n217, e217, h⟩ := bd h
    have hk := Gr.trans hk (gr_A (by decide) e217)
    obtain ⟨μ219, e219, h⟩ := bd h
    have hk := Gr.after (Gr.of (kq_pfP e219)) hk
    obtain ⟨n225, e225, h⟩ := bd h
    have hk := Gr.trans hk (gr_A (by decide) e225)
    obtain ⟨μ227, e227, h⟩ := bd h
    have hk := Gr.after (Gr.of (kq_pfP e227)) hk
    obtain ⟨n233, e233, h⟩ := bd h
    have hk := Gr.trans hk (gr_A (by decide) e233)
    obtain ⟨μ235, e235, h⟩ := bd h
    have hk := Gr.after (Gr.of (kq_pfP e235)) hk
    obtain ⟨n241, e241, h⟩ := bd h
    have hk := Gr.trans hk (gr_A (by decide) e241)
    obtain ⟨μ243, e243, h⟩ := bd h
    have hk := Gr.after (Gr.of (kq_pfP e243)) hk
    obtain ⟨n249, e249, h⟩ := bd h
    have hk := Gr.trans hk (gr_A (by decide) e249)
    obtain ⟨μ251, e251, h⟩ := bd h
    have hk := Gr.after (Gr.of (kq_pfP e251)) hk
    obtain ⟨n257, e257, h⟩ := bd h
    have hk := Gr.trans hk (gr_A (by decide) e257)
    obtain ⟨μ259, e259, h⟩ := bd h
    have hk := Gr.after (Gr.of (kq_pfP e259)) hk
    obtain ⟨n265, e265, h⟩ := bd h
    have hk := Gr.trans hk (gr_A (by decide) e265)
    obtain ⟨μ267, e267, h⟩ := bd h
    have hk := Gr.after (Gr.of (kq_pfP e267)) hk
    obtain ⟨n273, e273, h⟩ := bd h
    have hk := Gr.trans hk (gr_A (by decide) e273)
    obtain ⟨μ275, e275, h⟩ := bd h
    have hk := Gr.after (Gr.of (kq_pfP e275)) hk
    obtain ⟨n282, e282, h⟩ := bd h
    have hk := Gr.trans hk (gr_A (by decide) e282)
    obtain ⟨μ284, e284, h⟩ := bd h
    have hk := Gr.after (Gr.of (kq_pfP e284)) hk
    obtain ⟨n291, e291, h⟩ := bd h
    have hk := Gr.trans hk (gr_A (by decide) e291)
    obtain ⟨μ293, e293, h⟩ := bd h
    have hk := Gr.after (Gr.of (kq_pfP e293)) hk
    obtain ⟨n299, e299, h⟩ := bd h
    have hk := Gr.trans hk (gr_A (by decide) e299)
    obtain ⟨μ301, e301, h⟩ := bd h
    have hk := Gr.after (Gr.of (kq_pfP e301)) hk
    obtain ⟨n307, e307, h⟩ := bd h
    have hk := Gr.trans hk (gr_A (by decide) e307)
    obtain ⟨μ309, e309, h⟩ := bd h
    have hk := Gr.after (Gr.of (kq_pfP e309)) hk
    obtain ⟨n315, e315, h⟩ := bd h
    have hk := Gr.trans hk (gr_A (by decide) e315)
    obtain ⟨μ317, e317, h⟩ := bd h
    have hk := Gr.after (Gr.of (kq_pfP e317)) hk
    obtain ⟨n324, e324, h⟩ := bd h
    have hk := Gr.trans hk (gr_A (by decide) e324)
    obtain ⟨μ326, e326, h⟩ := bd h
    have hk := Gr.after (Gr.of (kq_pfP e326)) hk
    obtain ⟨n332, e332, h⟩ := bd h
    have hk := Gr.trans hk (gr_A (by decide) e332)
    obtain ⟨μ334, e334, h⟩ := bd h
    have hk := Gr.after (Gr.of (kq_pfP e334)) hk
    obtain ⟨n339, e339, h⟩ := bd h
    have hk := Gr.trans hk (gr_A (by decide) e339)
    obtain ⟨μ341, e341, h⟩ := bd h
    have hk := Gr.after (Gr.of (kq_pfP e341)) hk
    obtain ⟨n346, e346, h⟩ := bd h
    have hk := Gr.trans hk (gr_A (by decide) e346)
    obtain ⟨μ348, e348, h⟩ := bd h
    have hk := Gr.after (Gr.of (kq_pfP e348)) hk
    obtain ⟨n353, e353, h⟩ := bd h
    have hk := Gr.trans hk (gr_A (by decide) e353)
    obtain ⟨μ355, e355, h⟩ := bd h
    have hk := Gr.after (Gr.of (kq_pfP e355)) hk
    obtain ⟨n360, e360, h⟩ := bd h
    have hk := Gr.trans hk (gr_A (by decide) e360)
    obtain ⟨μ362, e362, h⟩ := bd h
    have hk := Gr.after (Gr.of (kq_pfP e362)) hk
    obtain ⟨x366, e366, h⟩ := bd h
    have hk := Gr.after (Gr.of (t_X11_begin e366)) hk
    obtain ⟨x370, e370, h⟩ := bd h
    have hk := Gr.after (Gr.of (t_X11_settle e370)) hk
    have h := Option.some.inj h
    subst h
    exact hk)
  refine r_newarray (t := 20) (by decide) rfl e37 ka_20 hC dX11_init_37 ?_
  obtain ⟨μ39, e39, h⟩ := Sat_bind h
  refine r_putP fk_X11_25 (Or.inr ⟨rfl, rfl, rfl, fl_X11_25⟩) rfl e39 dX11_init_39 ?_
  have hN := nz_tl (kq_pfP e39) hN
  refine r_aload_n dX11_init_42 0 rfl ?_
  refine r_bipush (v := 24) dX11_init_43 (by decide) ?_
  obtain ⟨n45, e45, h⟩ := Sat_bind h
  have hN := nz_A (by decide) e45 hN
  have hC := bud_of hN (by
    obtain ⟨x, h, hx⟩ := id h
    have hk : Gr (n45.2) (n45.2) := Gr.rfl
    refine bud_le (?_ : Gr _ ((fun (q : Mm) => q) x)) (hB x hx)
    obtain ⟨μ47, e47, h⟩ := bd h
    have hk := Gr.after (Gr.of (kq_pfP e47)) hk
    obtain ⟨n53, e53, h⟩ := bd h
    have hk := Gr.trans hk (gr_A (by decide) e53)
    obtain ⟨μ55, e55, h⟩ := bd h
    have hk := Gr.after (Gr.of (kq_pfP e55)) hk
    obtain ⟨n61, e61, h⟩ := bd h
    have hk := Gr.trans hk (gr_A (by decide) e61)
    obtain ⟨μ63, e63, h⟩ := bd h
    have hk := Gr.after (Gr.of (kq_pfP e63)) hk
    obtain ⟨n69, e69, h⟩ := bd h
    have hk := Gr.trans hk (gr_A (by decide) e69)
    obtain ⟨μ71, e71, h⟩ := bd h
    have hk := Gr.after (Gr.of (kq_pfP e71)) hk
    obtain ⟨n77, e77, h⟩ := bd h
    have hk := Gr.trans hk (gr_A (by decide) e77)
    obtain ⟨μ79, e79, h⟩ := bd h
    have hk := Gr.after (Gr.of (kq_pfP e79)) hk
    obtain ⟨n85, e85, h⟩ := bd h
    have hk := Gr.trans hk (gr_A (by decide) e85)
    obtain ⟨μ87, e87, h⟩ := bd h
    have hk := Gr.after (Gr.of (kq_pfP e87)) hk
    obtain ⟨n93, e93, h⟩ := bd h
    have hk := Gr.trans hk (gr_A (by decide) e93)
    obtain ⟨μ95, e95, h⟩ := bd h
    have hk := Gr.after (Gr.of (kq_pfP e95)) hk
    obtain ⟨n101, e101, h⟩ := bd h
    have hk := Gr.trans hk (gr_A (by decide) e101)
    obtain ⟨μ103, e103, h⟩ := bd h
    have hk := Gr.after (Gr.of (kq_pfP e103)) hk
    obtain ⟨n109, e109, h⟩ := bd h
    have hk := Gr.trans hk (gr_A (by decide) e109)
    obtain ⟨μ111, e111, h⟩ := bd h
    have hk := Gr.after (Gr.of (kq_pfP e111)) hk
    obtain ⟨n117, e117, h⟩ := bd h
    have hk := Gr.trans hk (gr_A (by decide) e117)
    obtain ⟨μ119, e119, h⟩ := bd h
    have hk := Gr.after (Gr.of (kq_pfP e119)) hk
    obtain ⟨n125, e125, h⟩ := bd h
    have hk := Gr.trans hk (gr_A (by decide) e125)
    obtain ⟨μ127, e127, h⟩ := bd h
    have hk := Gr.after (Gr.of (kq_pfP e127)) hk
    obtain ⟨n133, e133, h⟩ := bd h
    have hk := Gr.trans hk (gr_A (by decide) e133)
    obtain ⟨μ135, e135, h⟩ := bd h
    have hk := Gr.after (Gr.of (kq_pfP e135)) hk
    obtain ⟨n141, e141, h⟩ := bd h
    have hk := Gr.trans hk (gr_A (by decide) e141)
    obtain ⟨μ143, e143, h⟩ := bd h
    have hk := Gr.after (Gr.of (kq_pfP e143)) hk
    obtain ⟨n149, e149, h⟩ := bd h
    have hk := Gr.trans hk (gr_A (by decide) e149)
    obtain ⟨μ151, e151, h⟩ := bd h
    have hk := Gr.after (Gr.of (kq_pfP e151)) hk
    obtain ⟨n157, e157, h⟩ := bd h
    have hk := Gr.trans hk (gr_A (by decide) e157)
    obtain ⟨μ159, e159, h⟩ := bd h
    have hk := Gr.after (Gr.of (kq_pfP e159)) hk
    obtain ⟨n166, e166, h⟩ := bd h
    have hk := Gr.trans hk (gr_A (by decide) e166)
    obtain ⟨μ168, e168, h⟩ := bd h
    have hk := Gr.after (Gr.of (kq_pfP e168)) hk
    obtain ⟨n174, e174, h⟩ := bd h
    have hk := Gr.trans hk (gr_A (by decide) e174)
    obtain ⟨μ176, e176, h⟩ := bd h
    have hk := Gr.after (Gr.of (kq_pfP e176)) hk
    obtain ⟨n182, e182, h⟩ := bd h
    have hk := Gr.trans hk (gr_A (by decide) e182)
    obtain ⟨μ184, e184, h⟩ := bd h
    have hk := Gr.after (Gr.of (kq_pfP e184)) hk
    obtain ⟨n191, e191, h⟩ := bd h
    have hk := Gr.trans hk (gr_A (by decide) e191)
    obtain ⟨μ193, e193, h⟩ := bd h
    have hk := Gr.after (Gr.of (kq_pfP e193)) hk
    obtain ⟨n200, e200, h⟩ := bd h
    have hk := Gr.trans hk (gr_A (by decide) e200)
    obtain ⟨μ202, e202, h⟩ := bd h
    have hk := Gr.after (Gr.of (kq_pfP e202)) hk
    obtain ⟨n209, e209, h⟩ := bd h
    have hk := Gr.trans hk (gr_A (by decide) e209)
    obtain ⟨μ211, e211, h⟩ := bd h
    have hk := Gr.after (Gr.of (kq_pfP e211)) hk
    obtain ⟨n217, e217, h⟩ := bd h
    have hk := Gr.trans hk (gr_A (by decide) e217)
    obtain ⟨μ219, e219, h⟩ := bd h
    have hk := Gr.after (Gr.of (kq_pfP e219)) hk
    obtain ⟨n225, e225, h⟩ := bd h
    have hk := Gr.trans hk (gr_A (by decide) e225)
    obtain ⟨μ227, e227, h⟩ := bd h
    have hk := Gr.after (Gr.of (kq_pfP e227)) hk
    obtain ⟨n233, e233, h⟩ := bd h
    have hk := Gr.trans hk (gr_A (by decide) e233)
    obtain ⟨μ235, e235, h⟩ := bd h
    have hk := Gr.after (Gr.of (kq_pfP e235)) hk
    obtain ⟨n241, e241, h⟩ := bd h
    have hk := Gr.trans hk (gr_A (by decide) e241)
    obtain ⟨μ243, e243, h⟩ := bd h
    have hk := Gr.after (Gr.of (kq_pfP e243)) hk
    obtain ⟨n249, e249, h⟩ := bd h
    have hk := Gr.trans hk (gr_A (by decide) e249)
    obtain ⟨μ251, e251, h⟩ := bd h
    have hk := Gr.after (Gr.of (kq_pfP e251)) hk
    obtain ⟨n257, e257, h⟩ := bd h
    have hk := Gr.trans hk (gr_A (by decide) e257)
    obtain ⟨μ259, e259, h⟩ := bd h
    have hk := Gr.after (Gr.of (kq_pfP e259)) hk
    obtain ⟨n265, e265, h⟩ := bd h
    have hk := Gr.trans hk (gr_A (by decide) e265)
    obtain ⟨μ267, e267, h⟩ := bd h
    have hk := Gr.after (Gr.of (kq_pfP e267)) hk
    obtain ⟨n273, e273, h⟩ := bd h
    have hk := Gr.trans hk (gr_A (by decide) e273)
    obtain ⟨μ275, e275, h⟩ := bd h
    have hk := Gr.after (Gr.of (kq_pfP e275)) hk
    obtain ⟨n282, e282, h⟩ := bd h
    have hk := Gr.trans hk (gr_A (by decide) e282)
    obtain ⟨μ284, e284, h⟩ := bd h
    have hk := Gr.after (Gr.of (kq_pfP e284)) hk
    obtain ⟨n291, e291, h⟩ := bd h
    have hk := Gr.trans hk (gr_A (by decide) e291)
    obtain ⟨μ293, e293, h⟩ := bd h
    have hk := Gr.after (Gr.of (kq_pfP e293)) hk
    obtain ⟨n299, e299, h⟩ := bd h
    have hk := Gr.trans hk (gr_A (by decide) e299)
    obtain ⟨μ301, e301, h⟩ := bd h
    have hk := Gr.after (Gr.of (kq_pfP e301)) hk
    obtain ⟨n307, e307, h⟩ := bd h
    have hk := Gr.trans hk (gr_A (by decide) e307)
    obtain ⟨μ309, e309, h⟩ := bd h
    have hk := Gr.after (Gr.of (kq_pfP e309)) hk
    obtain ⟨n315, e315, h⟩ := bd h
    have hk := Gr.trans hk (gr_A (by decide) e315)
    obtain ⟨μ317, e317, h⟩ := bd h
    have hk := Gr.after (Gr.of (kq_pfP e317)) hk
    obtain ⟨n324, e324, h⟩ := bd h
    have hk := Gr.trans hk (gr_A (by decide) e324)
    obtain ⟨μ326, e326, h⟩ := bd h
    have hk := Gr.after (Gr.of (kq_pfP e326)) hk
    obtain ⟨n332, e332, h⟩ := bd h
    have hk := Gr.trans hk (gr_A (by decide) e332)
    obtain ⟨μ334, e334, h⟩ := bd h
    have hk := Gr.after (Gr.of (kq_pfP e334)) hk
    obtain ⟨n339, e339, h⟩ := bd h
    have hk := Gr.trans hk (gr_A (by decide) e339)
    obtain ⟨μ341, e341, h⟩ := bd h
    have hk := Gr.after (Gr.of (kq_pfP e341)) hk
    obtain ⟨n346, e346, h⟩ := bd h
    have hk := Gr.trans hk (gr_A (by decide) e346)
    obtain ⟨μ348, e348, h⟩ := bd h
    have hk := Gr.after (Gr.of (kq_pfP e348)) hk
    obtain ⟨n353, e353, h⟩ := bd h
    have hk := Gr.trans hk (gr_A (by decide) e353)
    obtain ⟨μ355, e355, h⟩ := bd h
    have hk := Gr.after (Gr.of (kq_pfP e355)) hk
    obtain ⟨n360, e360, h⟩ := bd h
    have hk := Gr.trans hk (gr_A (by decide) e360)
    obtain ⟨μ362, e362, h⟩ := bd h
    have hk := Gr.after (Gr.of (kq_pfP e362)) hk
    obtain ⟨x366, e366, h⟩ := bd h
    have hk := Gr.after (Gr.of (t_X11_begin e366)) hk
    obtain ⟨x370, e370, h⟩ := bd h
    have hk := Gr.after (Gr.of (t_X11_settle e370)) hk
    have h := Option.some.inj h
    subst h
    exact hk)
  refine r_newarray (t := 20) (by decide) rfl e45 ka_20 hC dX11_init_45 ?_
  obtain ⟨μ47, e47, h⟩ := Sat_bind h
  refine r_putP fk_X11_28 (Or.inr ⟨rfl, rfl, rfl, fl_X11_28⟩) rfl e47 dX11_init_47 ?_
  have hN := nz_tl (kq_pfP e47) hN
  refine r_aload_n dX11_init_50 0 rfl ?_
  refine r_bipush (v := 24) dX11_init_51 (by decide) ?_
  obtain ⟨n53, e53, h⟩ := Sat_bind h
  have hN := nz_A (by decide) e53 hN
  have hC := bud_of hN (by
    obtain ⟨x, h, hx⟩ := id h
    have hk : Gr (n53.2) (n53.2) := Gr.rfl
    refine bud_le (?_ : Gr _ ((fun (q : Mm) => q) x)) (hB x hx)
    obtain ⟨μ55, e55, h⟩ := bd h
    have hk := Gr.after (Gr.of (kq_pfP e55)) hk
    obtain ⟨n61, e61, h⟩ := bd h
    have hk := Gr.trans hk (gr_A (by decide) e61)
    obtain ⟨μ63, e63, h⟩ := bd h
    have hk := Gr.after (Gr.of (kq_pfP e63)) hk
    obtain ⟨n69, e69, h⟩ := bd h
    have hk := Gr.trans hk (gr_A (by decide) e69)
    obtain ⟨μ71, e71, h⟩ := bd h
    have hk := Gr.after (Gr.of (kq_pfP e71)) hk
    obtain ⟨n77, e77, h⟩ := bd h
    have hk := Gr.trans hk (gr_A (by decide) e77)
    obtain ⟨μ79, e79, h⟩ := bd h
    have hk := Gr.after (Gr.of (kq_pfP e79)) hk
    obtain ⟨n85, e85, h⟩ := bd h
    have hk := Gr.trans hk (gr_A (by decide) e85)
    obtain ⟨μ87, e87, h⟩ := bd h
    have hk := Gr.after (Gr.of (kq_pfP e87)) hk
    obtain ⟨n93, e93, h⟩ := bd h
    have hk := Gr.trans hk (gr_A (by decide) e93)
    obtain ⟨μ95, e95, h⟩ := bd h
    have hk := Gr.after (Gr.of (kq_pfP e95)) hk
    obtain ⟨n101, e101, h⟩ := bd h
    have hk := Gr.trans hk (gr_A (by decide) e101)
    obtain ⟨μ103, e103, h⟩ := bd h
    have hk := Gr.after (Gr.of (kq_pfP e103)) hk
    obtain ⟨n109, e109, h⟩ := bd h
    have hk := Gr.trans hk (gr_A (by decide) e109)
    obtain ⟨μ111, e111, h⟩ := bd h
    have hk := Gr.after (Gr.of (kq_pfP e111)) hk
    obtain ⟨n117, e117, h⟩ := bd h
    have hk := Gr.trans hk (gr_A (by decide) e117)
    obtain ⟨μ119, e119, h⟩ := bd h
    have hk := Gr.after (Gr.of (kq_pfP e119)) hk
    obtain ⟨n125, e125, h⟩ := bd h
    have hk := Gr.trans hk (gr_A (by decide) e125)
    obtain ⟨μ127, e127, h⟩ := bd h
    have hk := Gr.after (Gr.of (kq_pfP e127)) hk
    obtain ⟨n133, e133, h⟩ := bd h
    have hk := Gr.trans hk (gr_A (by decide) e133)
    obtain ⟨μ135, e135, h⟩ := bd h
    have hk := Gr.after (Gr.of (kq_pfP e135)) hk
    obtain ⟨n141, e141, h⟩ := bd h
    have hk := Gr.trans hk (gr_A (by decide) e141)
    obtain ⟨μ143, e143, h⟩ := bd h
    have hk := Gr.after (Gr.of (kq_pfP e143)) hk
    obtain ⟨n149, e149, h⟩ := bd h
    have hk := Gr.trans hk (gr_A (by decide) e149)
    obtain ⟨μ151, e151, h⟩ := bd h
    have hk := Gr.after (Gr.of (kq_pfP e151)) hk
    obtain ⟨n157, e157, h⟩ := bd h
    have hk := Gr.trans hk (gr_A (by decide) e157)
    obtain ⟨μ159, e159, h⟩ := bd h
    have hk := Gr.after (Gr.of (kq_pfP e159)) hk
    obtain ⟨n166, e166, h⟩ := bd h
    have hk := Gr.trans hk (gr_A (by decide) e166)
    obtain ⟨μ168, e168, h⟩ := bd h
    have hk := Gr.after (Gr.of (kq_pfP e168)) hk
    obtain ⟨n174, e174, h⟩ := bd h
    have hk := Gr.trans hk (gr_A (by decide) e174)
    obtain ⟨μ176, e176, h⟩ := bd h
    have hk := Gr.after (Gr.of (kq_pfP e176)) hk
    obtain ⟨n182, e182, h⟩ := bd h
    have hk := Gr.trans hk (gr_A (by decide) e182)
    obtain ⟨μ184, e184, h⟩ := bd h
    have hk := Gr.after (Gr.of (kq_pfP e184)) hk
    obtain ⟨n191, e191, h⟩ := bd h
    have hk := Gr.trans hk (gr_A (by decide) e191)
    obtain ⟨μ193, e193, h⟩ := bd h
    have hk := Gr.after (Gr.of (kq_pfP e193)) hk
    obtain ⟨n200, e200, h⟩ := bd h
    have hk := Gr.trans hk (gr_A (by decide) e200)
    obtain ⟨μ202, e202, h⟩ := bd h
    have hk := Gr.after (Gr.of (kq_pfP e202)) hk
    obtain ⟨n209, e209, h⟩ := bd h
    have hk := Gr.trans hk (gr_A (by decide) e209)
    obtain ⟨μ211, e211, h⟩ := bd h
    have hk := Gr.after (Gr.of (kq_pfP e211)) hk
    obtain ⟨n217, e217, h⟩ := bd h
    have hk := Gr.trans hk (gr_A (by decide) e217)
    obtain ⟨μ219, e219, h⟩ := bd h
    have hk := Gr.after (Gr.of (kq_pfP e219)) hk
    obtain ⟨n225, e225, h⟩ := bd h
    have hk := Gr.trans hk (gr_A (by decide) e225)
    obtain ⟨μ227, e227, h⟩ := bd h
    have hk := Gr.after (Gr.of (kq_pfP e227)) hk
    obtain ⟨n233, e233, h⟩ := bd h
    have hk := Gr.trans hk (gr_A (by decide) e233)
    obtain ⟨μ235, e235, h⟩ := bd h
    have hk := Gr.after (Gr.of (kq_pfP e235)) hk
    obtain ⟨n241, e241, h⟩ := bd h
    have hk := Gr.trans hk (gr_A (by decide) e241)
    obtain ⟨μ243, e243, h⟩ := bd h
    have hk := Gr.after (Gr.of (kq_pfP e243)) hk
    obtain ⟨n249, e249, h⟩ := bd h
    have hk := Gr.trans hk (gr_A (by decide) e249)
    obtain ⟨μ251, e251, h⟩ := bd h
    have hk := Gr.after (Gr.of (kq_pfP e251)) hk
    obtain ⟨n257, e257, h⟩ := bd h
    have hk := Gr.trans hk (gr_A (by decide) e257)
    obtain ⟨μ259, e259, h⟩ := bd h
    have hk := Gr.after (Gr.of (kq_pfP e259)) hk
    obtain ⟨n265, e265, h⟩ := bd h
    have hk := Gr.trans hk (gr_A (by decide) e265)
    obtain ⟨μ267, e267, h⟩ := bd h
    have hk := Gr.after (Gr.of (kq_pfP e267)) hk
    obtain ⟨n273, e273, h⟩ := bd h
    have hk := Gr.trans hk (gr_A (by decide) e273)
    obtain ⟨μ275, e275, h⟩ := bd h
    have hk := Gr.after (Gr.of (kq_pfP e275)) hk
    obtain ⟨n282, e282, h⟩ := bd h
    have hk := Gr.trans hk (gr_A (by decide) e282)
    obtain ⟨μ284, e284, h⟩ := bd h
    have hk := Gr.after (Gr.of (kq_pfP e284)) hk
    obtain ⟨n291, e291, h⟩ := bd h
    have hk := Gr.trans hk (gr_A (by decide) e291)
    obtain ⟨μ293, e293, h⟩ := bd h
    have hk := Gr.after (Gr.of (kq_pfP e293)) hk
    obtain ⟨n299, e299, h⟩ := bd h
    have hk := Gr.trans hk (gr_A (by decide) e299)
    obtain ⟨μ301, e301, h⟩ := bd h
    have hk := Gr.after (Gr.of (kq_pfP e301)) hk
    obtain ⟨n307, e307, h⟩ := bd h
    have hk := Gr.trans hk (gr_A (by decide) e307)
    obtain ⟨μ309, e309, h⟩ := bd h
    have hk := Gr.after (Gr.of (kq_pfP e309)) hk
    obtain ⟨n315, e315, h⟩ := bd h
    have hk := Gr.trans hk (gr_A (by decide) e315)
    obtain ⟨μ317, e317, h⟩ := bd h
    have hk := Gr.after (Gr.of (kq_pfP e317)) hk
    obtain ⟨n324, e324, h⟩ := bd h
    have hk := Gr.trans hk (gr_A (by decide) e324)
    obtain ⟨μ326, e326, h⟩ := bd h
    have hk := Gr.after (Gr.of (kq_pfP e326)) hk
    obtain ⟨n332, e332, h⟩ := bd h
    have hk := Gr.trans hk (gr_A (by decide) e332)
    obtain ⟨μ334, e334, h⟩ := bd h
    have hk := Gr.after (Gr.of (kq_pfP e334)) hk
    obtain ⟨n339, e339, h⟩ := bd h
    have hk := Gr.trans hk (gr_A (by decide) e339)
    obtain ⟨μ341, e341, h⟩ := bd h
    have hk := Gr.after (Gr.of (kq_pfP e341)) hk
    obtain ⟨n346, e346, h⟩ := bd h
    have hk := Gr.trans hk (gr_A (by decide) e346)
    obtain ⟨μ348, e348, h⟩ := bd h
    have hk := Gr.after (Gr.of (kq_pfP e348)) hk
    obtain ⟨n353, e353, h⟩ := bd h
    have hk := Gr.trans hk (gr_A (by decide) e353)
    obtain ⟨μ355, e355, h⟩ := bd h
    have hk := Gr.after (Gr.of (kq_pfP e355)) hk
    obtain ⟨n360, e360, h⟩ := bd h
    have hk := Gr.trans hk (gr_A (by decide) e360)
    obtain ⟨μ362, e362, h⟩ := bd h
    have hk := Gr.after (Gr.of (kq_pfP e362)) hk
    obtain ⟨x366, e366, h⟩ := bd h
    have hk := Gr.after (Gr.of (t_X11_begin e366)) hk
    obtain ⟨x370, e370, h⟩ := bd h
    have hk := Gr.after (Gr.of (t_X11_settle e370)) hk
    have h := Option.some.inj h
    subst h
    exact hk)
  refine r_newarray (t := 20) (by decide) rfl e53 ka_20 hC dX11_init_53 ?_
  obtain ⟨μ55, e55, h⟩ := Sat_bind h
  refine r_putP fk_X11_31 (Or.inr ⟨rfl, rfl, rfl, fl_X11_31⟩) rfl e55 dX11_init_55 ?_
  have hN := nz_tl (kq_pfP e55) hN
  refine r_aload_n dX11_init_58 0 rfl ?_
  refine r_bipush (v := 16) dX11_init_59 (by decide) ?_
  obtain ⟨n61, e61, h⟩ := Sat_bind h
  have hN := nz_A (by decide) e61 hN
  have hC := bud_of hN (by
    obtain ⟨x, h, hx⟩ := id h
    have hk : Gr (n61.2) (n61.2) := Gr.rfl
    refine bud_le (?_ : Gr _ ((fun (q : Mm) => q) x)) (hB x hx)
    obtain ⟨μ63, e63, h⟩ := bd h
    have hk := Gr.after (Gr.of (kq_pfP e63)) hk
    obtain ⟨n69, e69, h⟩ := bd h
    have hk := Gr.trans hk (gr_A (by decide) e69)
    obtain ⟨μ71, e71, h⟩ := bd h
    have hk := Gr.after (Gr.of (kq_pfP e71)) hk
    obtain ⟨n77, e77, h⟩ := bd h
    have hk := Gr.trans hk (gr_A (by decide) e77)
    obtain ⟨μ79, e79, h⟩ := bd h
    have hk := Gr.after (Gr.of (kq_pfP e79)) hk
    obtain ⟨n85, e85, h⟩ := bd h
    have hk := Gr.trans hk (gr_A (by decide) e85)
    obtain ⟨μ87, e87, h⟩ := bd h
    have hk := Gr.after (Gr.of (kq_pfP e87)) hk
    obtain ⟨n93, e93, h⟩ := bd h
    have hk := Gr.trans hk (gr_A (by decide) e93)
    obtain ⟨μ95, e95, h⟩ := bd h
    have hk := Gr.after (Gr.of (kq_pfP e95)) hk
    obtain ⟨n101, e101, h⟩ := bd h
    have hk := Gr.trans hk (gr_A (by decide) e101)
    obtain ⟨μ103, e103, h⟩ := bd h
    have hk := Gr.after (Gr.of (kq_pfP e103)) hk
    obtain ⟨n109, e109, h⟩ := bd h
    have hk := Gr.trans hk (gr_A (by decide) e109)
    obtain ⟨μ111, e111, h⟩ := bd h
    have hk := Gr.after (Gr.of (kq_pfP e111)) hk
    obtain ⟨n117, e117, h⟩ := bd h
    have hk := Gr.trans hk (gr_A (by decide) e117)
    obtain ⟨μ119, e119, h⟩ := bd h
    have hk := Gr.after (Gr.of (kq_pfP e119)) hk
    obtain ⟨n125, e125, h⟩ := bd h
    have hk := Gr.trans hk (gr_A (by decide) e125)
    obtain ⟨μ127, e127, h⟩ := bd h
    have hk := Gr.after (Gr.of (kq_pfP e127)) hk
    obtain ⟨n133, e133, h⟩ := bd h
    have hk := Gr.trans hk (gr_A (by decide) e133)
    obtain ⟨μ135, e135, h⟩ := bd h
    have hk := Gr.after (Gr.of (kq_pfP e135)) hk
    obtain ⟨n141, e141, h⟩ := bd h
    have hk := Gr.trans hk (gr_A (by decide) e141)
    obtain ⟨μ143, e143, h⟩ := bd h
    have hk := Gr.after (Gr.of (kq_pfP e143)) hk
    obtain ⟨n149, e149, h⟩ := bd h
    have hk := Gr.trans hk (gr_A (by decide) e149)
    obtain ⟨μ151, e151, h⟩ := bd h
    have hk := Gr.after (Gr.of (kq_pfP e151)) hk
    obtain ⟨n157, e157, h⟩ := bd h
    have hk := Gr.trans hk (gr_A (by decide) e157)
    obtain ⟨μ159, e159, h⟩ := bd h
    have hk := Gr.after (Gr.of (kq_pfP e159)) hk
    obtain ⟨n166, e166, h⟩ := bd h
    have hk := Gr.trans hk (gr_A (by decide) e166)
    obtain ⟨μ168, e168, h⟩ := bd h
    have hk := Gr.after (Gr.of (kq_pfP e168)) hk
    obtain ⟨n174, e174, h⟩ := bd h
    have hk := Gr.trans hk (gr_A (by decide) e174)
    obtain ⟨μ176, e176, h⟩ := bd h
    have hk := Gr.after (Gr.of (kq_pfP e176)) hk
    obtain ⟨n182, e182, h⟩ := bd h
    have hk := Gr.trans hk (gr_A (by decide) e182)
    obtain ⟨μ184, e184, h⟩ := bd h
    have hk := Gr.after (Gr.of (kq_pfP e184)) hk
    obtain ⟨n191, e191, h⟩ := bd h
    have hk := Gr.trans hk (gr_A (by decide) e191)
    obtain ⟨μ193, e193, h⟩ := bd h
    have hk := Gr.after (Gr.of (kq_pfP e193)) hk
    obtain ⟨n200, e200, h⟩ := bd h
    have hk := Gr.trans hk (gr_A (by decide) e200)
    obtain ⟨μ202, e202, h⟩ := bd h
    have hk := Gr.after (Gr.of (kq_pfP e202)) hk
    obtain ⟨n209, e209, h⟩ := bd h
    have hk := Gr.trans hk (gr_A (by decide) e209)
    obtain ⟨μ211, e211, h⟩ := bd h
    have hk := Gr.after (Gr.of (kq_pfP e211)) hk
    obtain ⟨n217, e217, h⟩ := bd h
    have hk := Gr.trans hk (gr_A (by decide) e217)
    obtain ⟨μ219, e219, h⟩ := bd h
    have hk := Gr.after (Gr.of (kq_pfP e219)) hk
    obtain ⟨n225, e225, h⟩ := bd h
    have hk := Gr.trans hk (gr_A (by decide) e225)
    obtain ⟨μ227, e227, h⟩ := bd h
    have hk := Gr.after (Gr.of (kq_pfP e227)) hk
    obtain ⟨n233, e233, h⟩ := bd h
    have hk := Gr.trans hk (gr_A (by decide) e233)
    obtain ⟨μ235, e235, h⟩ := bd h
    have hk := Gr.after (Gr.of (kq_pfP e235)) hk
    obtain ⟨n241, e241, h⟩ := bd h
    have hk := Gr.trans hk (gr_A (by decide) e241)
    obtain ⟨μ243, e243, h⟩ := bd h
    have hk := Gr.after (Gr.of (kq_pfP e243)) hk
    obtain ⟨n249, e249, h⟩ := bd h
    have hk := Gr.trans hk (gr_A (by decide) e249)
    obtain ⟨μ251, e251, h⟩ := bd h
    have hk := Gr.after (Gr.of (kq_pfP e251)) hk
    obtain ⟨n257, e257, h⟩ := bd h
    have hk := Gr.trans hk (gr_A (by decide) e257)
    obtain ⟨μ259, e259, h⟩ := bd h
    have hk := Gr.after (Gr.of (kq_pfP e259)) hk
    obtain ⟨n265, e265, h⟩ := bd h
    have hk := Gr.trans hk (gr_A (by decide) e265)
    obtain ⟨μ267, e267, h⟩ := bd h
    have hk := Gr.after (Gr.of (kq_pfP e267)) hk
    obtain ⟨n273, e273, h⟩ := bd h
    have hk := Gr.trans hk (gr_A (by decide) e273)
    obtain ⟨μ275, e275, h⟩ := bd h
    have hk := Gr.after (Gr.of (kq_pfP e275)) hk
    obtain ⟨n282, e282, h⟩ := bd h
    have hk := Gr.trans hk (gr_A (by decide) e282)
    obtain ⟨μ284, e284, h⟩ := bd h
    have hk := Gr.after (Gr.of (kq_pfP e284)) hk
    obtain ⟨n291, e291, h⟩ := bd h
    have hk := Gr.trans hk (gr_A (by decide) e291)
    obtain ⟨μ293, e293, h⟩ := bd h
    have hk := Gr.after (Gr.of (kq_pfP e293)) hk
    obtain ⟨n299, e299, h⟩ := bd h
    have hk := Gr.trans hk (gr_A (by decide) e299)
    obtain ⟨μ301, e301, h⟩ := bd h
    have hk := Gr.after (Gr.of (kq_pfP e301)) hk
    obtain ⟨n307, e307, h⟩ := bd h
    have hk := Gr.trans hk (gr_A (by decide) e307)
    obtain ⟨μ309, e309, h⟩ := bd h
    have hk := Gr.after (Gr.of (kq_pfP e309)) hk
    obtain ⟨n315, e315, h⟩ := bd h
    have hk := Gr.trans hk (gr_A (by decide) e315)
    obtain ⟨μ317, e317, h⟩ := bd h
    have hk := Gr.after (Gr.of (kq_pfP e317)) hk
    obtain ⟨n324, e324, h⟩ := bd h
    have hk := Gr.trans hk (gr_A (by decide) e324)
    obtain ⟨μ326, e326, h⟩ := bd h
    have hk := Gr.after (Gr.of (kq_pfP e326)) hk
    obtain ⟨n332, e332, h⟩ := bd h
    have hk := Gr.trans hk (gr_A (by decide) e332)
    obtain ⟨μ334, e334, h⟩ := bd h
    have hk := Gr.after (Gr.of (kq_pfP e334)) hk
    obtain ⟨n339, e339, h⟩ := bd h
    have hk := Gr.trans hk (gr_A (by decide) e339)
    obtain ⟨μ341, e341, h⟩ := bd h
    have hk := Gr.after (Gr.of (kq_pfP e341)) hk
    obtain ⟨n346, e346, h⟩ := bd h
    have hk := Gr.trans hk (gr_A (by decide) e346)
    obtain ⟨μ348, e348, h⟩ := bd h
    have hk := Gr.after (Gr.of (kq_pfP e348)) hk
    obtain ⟨n353, e353, h⟩ := bd h
    have hk := Gr.trans hk (gr_A (by decide) e353)
    obtain ⟨μ355, e355, h⟩ := bd h
    have hk := Gr.after (Gr.of (kq_pfP e355)) hk
    obtain ⟨n360, e360, h⟩ := bd h
    have hk := Gr.trans hk (gr_A (by decide) e360)
    obtain ⟨μ362, e362, h⟩ := bd h
    have hk := Gr.after (Gr.of (kq_pfP e362)) hk
    obtain ⟨x366, e366, h⟩ := bd h
    have hk := Gr.after (Gr.of (t_X11_begin e366)) hk
    obtain ⟨x370, e370, h⟩ := bd h
    have hk := Gr.after (Gr.of (t_X11_settle e370)) hk
    have h := Option.some.inj h
    subst h
    exact hk)
  refine r_newarray (t := 20) (by decide) rfl e61 ka_20 hC dX11_init_61 ?_
  obtain ⟨μ63, e63, h⟩ := Sat_bind h
  refine r_putP fk_X11_34 (Or.inr ⟨rfl, rfl, rfl, fl_X11_34⟩) rfl e63 dX11_init_63 ?_
  have hN := nz_tl (kq_pfP e63) hN
  refine r_aload_n dX11_init_66 0 rfl ?_
  refine r_bipush (v := 16) dX11_init_67 (by decide) ?_
  obtain ⟨n69, e69, h⟩ := Sat_bind h
  have hN := nz_A (by decide) e69 hN
  have hC := bud_of hN (by
    obtain ⟨x, h, hx⟩ := id h
    have hk : Gr (n69.2) (n69.2) := Gr.rfl
    refine bud_le (?_ : Gr _ ((fun (q : Mm) => q) x)) (hB x hx)
    obtain ⟨μ71, e71, h⟩ := bd h
    have hk := Gr.after (Gr.of (kq_pfP e71)) hk
    obtain ⟨n77, e77, h⟩ := bd h
    have hk := Gr.trans hk (gr_A (by decide) e77)
    obtain ⟨μ79, e79, h⟩ := bd h
    have hk := Gr.after (Gr.of (kq_pfP e79)) hk
    obtain ⟨n85, e85, h⟩ := bd h
    have hk := Gr.trans hk (gr_A (by decide) e85)
    obtain ⟨μ87, e87, h⟩ := bd h
    have hk := Gr.after (Gr.of (kq_pfP e87)) hk
    obtain ⟨n93, e93, h⟩ := bd h
    have hk := Gr.trans hk (gr_A (by decide) e93)
    obtain ⟨μ95, e95, h⟩ := bd h
    have hk := Gr.after (Gr.of (kq_pfP e95)) hk
    obtain ⟨n101, e101, h⟩ := bd h
    have hk := Gr.trans hk (gr_A (by decide) e101)
    obtain ⟨μ103, e103, h⟩ := bd h
    have hk := Gr.after (Gr.of (kq_pfP e103)) hk
    obtain ⟨n109, e109, h⟩ := bd h
    have hk := Gr.trans hk (gr_A (by decide) e109)
    obtain ⟨μ111, e111, h⟩ := bd h
    have hk := Gr.after (Gr.of (kq_pfP e111)) hk
    obtain ⟨n117, e117, h⟩ := bd h
    have hk := Gr.trans hk (gr_A (by decide) e117)
    obtain ⟨μ119, e119, h⟩ := bd h
    have hk := Gr.after (Gr.of (kq_pfP e119)) hk
    obtain ⟨n125, e125, h⟩ := bd h
    have hk := Gr.trans hk (gr_A (by decide) e125)
    obtain ⟨μ127, e127, h⟩ := bd h
    have hk := Gr.after (Gr.of (kq_pfP e127)) hk
    obtain ⟨n133, e133, h⟩ := bd h
    have hk := Gr.trans hk (gr_A (by decide) e133)
    obtain ⟨μ135, e135, h⟩ := bd h
    have hk := Gr.after (Gr.of (kq_pfP e135)) hk
    obtain ⟨n141, e141, h⟩ := bd h
    have hk := Gr.trans hk (gr_A (by decide) e141)
    obtain ⟨μ143, e143, h⟩ := bd h
    have hk := Gr.after (Gr.of (kq_pfP e143)) hk
    obtain ⟨n149, e149, h⟩ := bd h
    have hk := Gr.trans hk (gr_A (by decide) e149)
    obtain ⟨μ151, e151, h⟩ := bd h
    have hk := Gr.after (Gr.of (kq_pfP e151)) hk
    obtain ⟨n157, e157, h⟩ := bd h
    have hk := Gr.trans hk (gr_A (by decide) e157)
    obtain ⟨μ159, e159, h⟩ := bd h
    have hk := Gr.after (Gr.of (kq_pfP e159)) hk
    obtain ⟨n166, e166, h⟩ := bd h
    have hk := Gr.trans hk (gr_A (by decide) e166)
    obtain ⟨μ168, e168, h⟩ := bd h
    have hk := Gr.after (Gr.of (kq_pfP e168)) hk
    obtain ⟨n174, e174, h⟩ := bd h
    have hk := Gr.trans hk (gr_A (by decide) e174)
    obtain ⟨μ176, e176, h⟩ := bd h
    have hk := Gr.after (Gr.of (kq_pfP e176)) hk
    obtain ⟨n182, e182, h⟩ := bd h
    have hk := Gr.trans hk (gr_A (by decide) e182)
    obtain ⟨μ184, e184, h⟩ := bd h
    have hk := Gr.after (Gr.of (kq_pfP e184)) hk
    obtain ⟨n191, e191, h⟩ := bd h
    have hk := Gr.trans hk (gr_A (by decide) e191)
    obtain ⟨μ193, e193, h⟩ := bd h
    have hk := Gr.after (Gr.of (kq_pfP e193)) hk
    obtain ⟨n200, e200, h⟩ := bd h
    have hk := Gr.trans hk (gr_A (by decide) e200)
    obtain ⟨μ202, e202, h⟩ := bd h
    have hk := Gr.after (Gr.of (kq_pfP e202)) hk
    obtain ⟨n209, e209, h⟩ := bd h
    have hk := Gr.trans hk (gr_A (by decide) e209)
    obtain ⟨μ211, e211, h⟩ := bd h
    have hk := Gr.after (Gr.of (kq_pfP e211)) hk
    obtain ⟨n217, e217, h⟩ := bd h
    have hk := Gr.trans hk (gr_A (by decide) e217)
    obtain ⟨μ219, e219, h⟩ := bd h
    have hk := Gr.after (Gr.of (kq_pfP e219)) hk
    obtain ⟨n225, e225, h⟩ := bd h
    have hk := Gr.trans hk (gr_A (by decide) e225)
    obtain ⟨μ227, e227, h⟩ := bd h
    have hk := Gr.after (Gr.of (kq_pfP e227)) hk
    obtain ⟨n233, e233, h⟩ := bd h
    have hk := Gr.trans hk (gr_A (by decide) e233)
    obtain ⟨μ235, e235, h⟩ := bd h
    have hk := Gr.after (Gr.of (kq_pfP e235)) hk
    obtain ⟨n241, e241, h⟩ := bd h
    have hk := Gr.trans hk (gr_A (by decide) e241)
    obtain ⟨μ243, e243, h⟩ := bd h
    have hk := Gr.after (Gr.of (kq_pfP e243)) hk
    obtain ⟨n249, e249, h⟩ := bd h
    have hk := Gr.trans hk (gr_A (by decide) e249)
    obtain ⟨μ251, e251, h⟩ := bd h
    have hk := Gr.after (Gr.of (kq_pfP e251)) hk
    obtain ⟨n257, e257, h⟩ := bd h
    have hk := Gr.trans hk (gr_A (by decide) e257)
    obtain ⟨μ259, e259, h⟩ := bd h
    have hk := Gr.after (Gr.of (kq_pfP e259)) hk
    obtain ⟨n265, e265, h⟩ := bd h
    have hk := Gr.trans hk (gr_A (by decide) e265)
    obtain ⟨μ267, e267, h⟩ := bd h
    have hk := Gr.after (Gr.of (kq_pfP e267)) hk
    obtain ⟨n273, e273, h⟩ := bd h
    have hk := Gr.trans hk (gr_A (by decide) e273)
    obtain ⟨μ275, e275, h⟩ := bd h
    have hk := Gr.after (Gr.of (kq_pfP e275)) hk
    obtain ⟨n282, e282, h⟩ := bd h
    have hk := Gr.trans hk (gr_A (by decide) e282)
    obtain ⟨μ284, e284, h⟩ := bd h
    have hk := Gr.after (Gr.of (kq_pfP e284)) hk
    obtain ⟨n291, e291, h⟩ := bd h
    have hk := Gr.trans hk (gr_A (by decide) e291)
    obtain ⟨μ293, e293, h⟩ := bd h
    have hk := Gr.after (Gr.of (kq_pfP e293)) hk
    obtain ⟨n299, e299, h⟩ := bd h
    have hk := Gr.trans hk (gr_A (by decide) e299)
    obtain ⟨μ301, e301, h⟩ := bd h
    have hk := Gr.after (Gr.of (kq_pfP e301)) hk
    obtain ⟨n307, e307, h⟩ := bd h
    have hk := Gr.trans hk (gr_A (by decide) e307)
    obtain ⟨μ309, e309, h⟩ := bd h
    have hk := Gr.after (Gr.of (kq_pfP e309)) hk
    obtain ⟨n315, e315, h⟩ := bd h
    have hk := Gr.trans hk (gr_A (by decide) e315)
    obtain ⟨μ317, e317, h⟩ := bd h
    have hk := Gr.after (Gr.of (kq_pfP e317)) hk
    obtain ⟨n324, e324, h⟩ := bd h
    have hk := Gr.trans hk (gr_A (by decide) e324)
    obtain ⟨μ326, e326, h⟩ := bd h
    have hk := Gr.after (Gr.of (kq_pfP e326)) hk
    obtain ⟨n332, e332, h⟩ := bd h
    have hk := Gr.trans hk (gr_A (by decide) e332)
    obtain ⟨μ334, e334, h⟩ := bd h
    have hk := Gr.after (Gr.of (kq_pfP e334)) hk
    obtain ⟨n339, e339, h⟩ := bd h
    have hk := Gr.trans hk (gr_A (by decide) e339)
    obtain ⟨μ341, e341, h⟩ := bd h
    have hk := Gr.after (Gr.of (kq_pfP e341)) hk
    obtain ⟨n346, e346, h⟩ := bd h
    have hk := Gr.trans hk (gr_A (by decide) e346)
    obtain ⟨μ348, e348, h⟩ := bd h
    have hk := Gr.after (Gr.of (kq_pfP e348)) hk
    obtain ⟨n353, e353, h⟩ := bd h
    have hk := Gr.trans hk (gr_A (by decide) e353)
    obtain ⟨μ355, e355, h⟩ := bd h
    have hk := Gr.after (Gr.of (kq_pfP e355)) hk
    obtain ⟨n360, e360, h⟩ := bd h
    have hk := Gr.trans hk (gr_A (by decide) e360)
    obtain ⟨μ362, e362, h⟩ := bd h
    have hk := Gr.after (Gr.of (kq_pfP e362)) hk
    obtain ⟨x366, e366, h⟩ := bd h
    have hk := Gr.after (Gr.of (t_X11_begin e366)) hk
    obtain ⟨x370, e370, h⟩ := bd h
    have hk := Gr.after (Gr.of (t_X11_settle e370)) hk
    have h := Option.some.inj h
    subst h
    exact hk)
  refine r_newarray (t := 20) (by decide) rfl e69 ka_20 hC dX11_init_69 ?_
  obtain ⟨μ71, e71, h⟩ := Sat_bind h
  refine r_putP fk_X11_37 (Or.inr ⟨rfl, rfl, rfl, fl_X11_37⟩) rfl e71 dX11_init_71 ?_
  have hN := nz_tl (kq_pfP e71) hN
  refine r_aload_n dX11_init_74 0 rfl ?_
  refine r_bipush (v := 16) dX11_init_75 (by decide) ?_
  obtain ⟨n77, e77, h⟩ := Sat_bind h
  have hN := nz_A (by decide) e77 hN
  have hC := bud_of hN (by
    obtain ⟨x, h, hx⟩ := id h
    have hk : Gr (n77.2) (n77.2) := Gr.rfl
    refine bud_le (?_ : Gr _ ((fun (q : Mm) => q) x)) (hB x hx)
    obtain ⟨μ79, e79, h⟩ := bd h
    have hk := Gr.after (Gr.of (kq_pfP e79)) hk
    obtain ⟨n85, e85, h⟩ := bd h
    have hk := Gr.trans hk (gr_A (by decide) e85)
    obtain ⟨μ87, e87, h⟩ := bd h
    have hk := Gr.after (Gr.of (kq_pfP e87)) hk
    obtain ⟨n93, e93, h⟩ := bd h
    have hk := Gr.trans hk (gr_A (by decide) e93)
    obtain ⟨μ95, e95, h⟩ := bd h
    have hk := Gr.after (Gr.of (kq_pfP e95)) hk
    obtain ⟨n101, e101, h⟩ := bd h
    have hk := Gr.trans hk (gr_A (by decide) e101)
    obtain ⟨μ103, e103, h⟩ := bd h
    have hk := Gr.after (Gr.of (kq_pfP e103)) hk
    obtain ⟨n109, e109, h⟩ := bd h
    have hk := Gr.trans hk (gr_A (by decide) e109)
    obtain ⟨μ111, e111, h⟩ := bd h
    have hk := Gr.after (Gr.of (kq_pfP e111)) hk
    obtain ⟨n117, e117, h⟩ := bd h
    have hk := Gr.trans hk (gr_A (by decide) e117)
    obtain ⟨μ119, e119, h⟩ := bd h
    have hk := Gr.after (Gr.of (kq_pfP e119)) hk
    obtain ⟨n125, e125, h⟩ := bd h
    have hk := Gr.trans hk (gr_A (by decide) e125)
    obtain ⟨μ127, e127, h⟩ := bd h
    have hk := Gr.after (Gr.of (kq_pfP e127)) hk
    obtain ⟨n133, e133, h⟩ := bd h
    have hk := Gr.trans hk (gr_A (by decide) e133)
    obtain ⟨μ135, e135, h⟩ := bd h
    have hk := Gr.after (Gr.of (kq_pfP e135)) hk
    obtain ⟨n141, e141, h⟩ := bd h
    have hk := Gr.trans hk (gr_A (by decide) e141)
    obtain ⟨μ143, e143, h⟩ := bd h
    have hk := Gr.after (Gr.of (kq_pfP e143)) hk
    obtain ⟨n149, e149, h⟩ := bd h
    have hk := Gr.trans hk (gr_A (by decide) e149)
    obtain ⟨μ151, e151, h⟩ := bd h
    have hk := Gr.after (Gr.of (kq_pfP e151)) hk
    obtain ⟨n157, e157, h⟩ := bd h
    have hk := Gr.trans hk (gr_A (by decide) e157)
    obtain ⟨μ159, e159, h⟩ := bd h
    have hk := Gr.after (Gr.of (kq_pfP e159)) hk
    obtain ⟨n166, e166, h⟩ := bd h
    have hk := Gr.trans hk (gr_A (by decide) e166)
    obtain ⟨μ168, e168, h⟩ := bd h
    have hk := Gr.after (Gr.of (kq_pfP e168)) hk
    obtain ⟨n174, e174, h⟩ := bd h
    have hk := Gr.trans hk (gr_A (by decide) e174)
    obtain ⟨μ176, e176, h⟩ := bd h
    have hk := Gr.after (Gr.of (kq_pfP e176)) hk
    obtain ⟨n182, e182, h⟩ := bd h
    have hk := Gr.trans hk (gr_A (by decide) e182)
    obtain ⟨μ184, e184, h⟩ := bd h
    have hk := Gr.after (Gr.of (kq_pfP e184)) hk
    obtain ⟨n191, e191, h⟩ := bd h
    have hk := Gr.trans hk (gr_A (by decide) e191)
    obtain ⟨μ193, e193, h⟩ := bd h
    have hk := Gr.after (Gr.of (kq_pfP e193)) hk
    obtain ⟨n200, e200, h⟩ := bd h
    have hk := Gr.trans hk (gr_A (by decide) e200)
    obtain ⟨μ202, e202, h⟩ := bd h
    have hk := Gr.after (Gr.of (kq_pfP e202)) hk
    obtain ⟨n209, e209, h⟩ := bd h
    have hk := Gr.trans hk (gr_A (by decide) e209)
    obtain ⟨μ211, e211, h⟩ := bd h
    have hk := Gr.after (Gr.of (kq_pfP e211)) hk
    obtain ⟨n217, e217, h⟩ := bd h
    have hk := Gr.trans hk (gr_A (by decide) e217)
    obtain ⟨μ219, e219, h⟩ := bd h
    have hk := Gr.after (Gr.of (kq_pfP e219)) hk
    obtain ⟨n225, e225, h⟩ := bd h
    have hk := Gr.trans hk (gr_A (by decide) e225)
    obtain ⟨μ227, e227, h⟩ := bd h
    have hk := Gr.after (Gr.of (kq_pfP e227)) hk
    obtain ⟨n233, e233, h⟩ := bd h
    have hk := Gr.trans hk (gr_A (by decide) e233)
    obtain ⟨μ235, e235, h⟩ := bd h
    have hk := Gr.after (Gr.of (kq_pfP e235)) hk
    obtain ⟨n241, e241, h⟩ := bd h
    have hk := Gr.trans hk (gr_A (by decide) e241)
    obtain ⟨μ243, e243, h⟩ := bd h
    have hk := Gr.after (Gr.of (kq_pfP e243)) hk
    obtain ⟨n249, e249, h⟩ := bd h
    have hk := Gr.trans hk (gr_A (by decide) e249)
    obtain ⟨μ251, e251, h⟩ := bd h
    have hk := Gr.after (Gr.of (kq_pfP e251)) hk
    obtain ⟨n257, e257, h⟩ := bd h
    have hk := Gr.trans hk (gr_A (by decide) e257)
    obtain ⟨μ259, e259, h⟩ := bd h
    have hk := Gr.after (Gr.of (kq_pfP e259)) hk
    obtain ⟨n265, e265, h⟩ := bd h
    have hk := Gr.trans hk (gr_A (by decide) e265)
    obtain ⟨μ267, e267, h⟩ := bd h
    have hk := Gr.after (Gr.of (kq_pfP e267)) hk
    obtain ⟨n273, e273, h⟩ := bd h
    have hk := Gr.trans hk (gr_A (by decide) e273)
    obtain ⟨μ275, e275, h⟩ := bd h
    have hk := Gr.after (Gr.of (kq_pfP e275)) hk
    obtain ⟨n282, e282, h⟩ := bd h
    have hk := Gr.trans hk (gr_A (by decide) e282)
    obtain ⟨μ284, e284, h⟩ := bd h
    have hk := Gr.after (Gr.of (kq_pfP e284)) hk
    obtain ⟨n291, e291, h⟩ := bd h
    have hk := Gr.trans hk (gr_A (by decide) e291)
    obtain ⟨μ293, e293, h⟩ := bd h
    have hk := Gr.after (Gr.of (kq_pfP e293)) hk
    obtain ⟨n299, e299, h⟩ := bd h
    have hk := Gr.trans hk (gr_A (by decide) e299)
    obtain ⟨μ301, e301, h⟩ := bd h
    have hk := Gr.after (Gr.of (kq_pfP e301)) hk
    obtain ⟨n307, e307, h⟩ := bd h
    have hk := Gr.trans hk (gr_A (by decide) e307)
    obtain ⟨μ309, e309, h⟩ := bd h
    have hk := Gr.after (Gr.of (kq_pfP e309)) hk
    obtain ⟨n315, e315, h⟩ := bd h
    have hk := Gr.trans hk (gr_A (by decide) e315)
    obtain ⟨μ317, e317, h⟩ := bd h
    have hk := Gr.after (Gr.of (kq_pfP e317)) hk
    obtain ⟨n324, e324, h⟩ := bd h
    have hk := Gr.trans hk (gr_A (by decide) e324)
    obtain ⟨μ326, e326, h⟩ := bd h
    have hk := Gr.after (Gr.of (kq_pfP e326)) hk
    obtain ⟨n332, e332, h⟩ := bd h
    have hk := Gr.trans hk (gr_A (by decide) e332)
    obtain ⟨μ334, e334, h⟩ := bd h
    have hk := Gr.after (Gr.of (kq_pfP e334)) hk
    obtain ⟨n339, e339, h⟩ := bd h
    have hk := Gr.trans hk (gr_A (by decide) e339)
    obtain ⟨μ341, e341, h⟩ := bd h
    have hk := Gr.after (Gr.of (kq_pfP e341)) hk
    obtain ⟨n346, e346, h⟩ := bd h
    have hk := Gr.trans hk (gr_A (by decide) e346)
    obtain ⟨μ348, e348, h⟩ := bd h
    have hk := Gr.after (Gr.of (kq_pfP e348)) hk
    obtain ⟨n353, e353, h⟩ := bd h
    have hk := Gr.trans hk (gr_A (by decide) e353)
    obtain ⟨μ355, e355, h⟩ := bd h
    have hk := Gr.after (Gr.of (kq_pfP e355)) hk
    obtain ⟨n360, e360, h⟩ := bd h
    have hk := Gr.trans hk (gr_A (by decide) e360)
    obtain ⟨μ362, e362, h⟩ := bd h
    have hk := Gr.after (Gr.of (kq_pfP e362)) hk
    obtain ⟨x366, e366, h⟩ := bd h
    have hk := Gr.after (Gr.of (t_X11_begin e366)) hk
    obtain ⟨x370, e370, h⟩ := bd h
    have hk := Gr.after (Gr.of (t_X11_settle e370)) hk
    have h := Option.some.inj h
    subst h
    exact hk)
  refine r_newarray (t := 20) (by decide) rfl e77 ka_20 hC dX11_init_77 ?_
  obtain ⟨μ79, e79, h⟩ := Sat_bind h
  refine r_putP fk_X11_40 (Or.inr ⟨rfl, rfl, rfl, fl_X11_40⟩) rfl e79 dX11_init_79 ?_
  have hN := nz_tl (kq_pfP e79) hN
  refine r_aload_n dX11_init_82 0 rfl ?_
  refine r_bipush (v := 16) dX11_init_83 (by decide) ?_
  obtain ⟨n85, e85, h⟩ := Sat_bind h
  have hN := nz_A (by decide) e85 hN
  have hC := bud_of hN (by
    obtain ⟨x, h, hx⟩ := id h
    have hk : Gr (n85.2) (n85.2) := Gr.rfl
    refine bud_le (?_ : Gr _ ((fun (q : Mm) => q) x)) (hB x hx)
    obtain ⟨μ87, e87, h⟩ := bd h
    have hk := Gr.after (Gr.of (kq_pfP e87)) hk
    obtain ⟨n93, e93, h⟩ := bd h
    have hk := Gr.trans hk (gr_A (by decide) e93)
    obtain ⟨μ95, e95, h⟩ := bd h
    have hk := Gr.after (Gr.of (kq_pfP e95)) hk
    obtain ⟨n101, e101, h⟩ := bd h
    have hk := Gr.trans hk (gr_A (by decide) e101)
    obtain ⟨μ103, e103, h⟩ := bd h
    have hk := Gr.after (Gr.of (kq_pfP e103)) hk
    obtain ⟨n109, e109, h⟩ := bd h
    have hk := Gr.trans hk (gr_A (by decide) e109)
    obtain ⟨μ111, e111, h⟩ := bd h
    have hk := Gr.after (Gr.of (kq_pfP e111)) hk
    obtain ⟨n117, e117, h⟩ := bd h
    have hk := Gr.trans hk (gr_A (by decide) e117)
    obtain ⟨μ119, e119, h⟩ := bd h
    have hk := Gr.after (Gr.of (kq_pfP e119)) hk
    obtain ⟨n125, e125, h⟩ := bd h
    have hk := Gr.trans hk (gr_A (by decide) e125)
    obtain ⟨μ127, e127, h⟩ := bd h
    have hk := Gr.after (Gr.of (kq_pfP e127)) hk
    obtain ⟨n133, e133, h⟩ := bd h
    have hk := Gr.trans hk (gr_A (by decide) e133)
    obtain ⟨μ135, e135, h⟩ := bd h
    have hk := Gr.after (Gr.of (kq_pfP e135)) hk
    obtain ⟨n141, e141, h⟩ := bd h
    have hk := Gr.trans hk (gr_A (by decide) e141)
    obtain ⟨μ143, e143, h⟩ := bd h
    have hk := Gr.after (Gr.of (kq_pfP e143)) hk
    obtain ⟨n149, e149, h⟩ := bd h
    have hk := Gr.trans hk (gr_A (by decide) e149)
    obtain ⟨μ151, e151, h⟩ := bd h
    have hk := Gr.after (Gr.of (kq_pfP e151)) hk
    obtain ⟨n157, e157, h⟩ := bd h
    have hk := Gr.trans hk (gr_A (by decide) e157)
    obtain ⟨μ159, e159, h⟩ := bd h
    have hk := Gr.after (Gr.of (kq_pfP e159)) hk
    obtain ⟨n166, e166, h⟩ := bd h
    have hk := Gr.trans hk (gr_A (by decide) e166)
    obtain ⟨μ168, e168, h⟩ := bd h
    have hk := Gr.after (Gr.of (kq_pfP e168)) hk
    obtain ⟨n174, e174, h⟩ := bd h
    have hk := Gr.trans hk (gr_A (by decide) e174)
    obtain ⟨μ176, e176, h⟩ := bd h
    have hk := Gr.after (Gr.of (kq_pfP e176)) hk
    obtain ⟨n182, e182, h⟩ := bd h
    have hk := Gr.trans hk (gr_A (by decide) e182)
    obtain ⟨μ184, e184, h⟩ := bd h
    have hk := Gr.after (Gr.of (kq_pfP e184)) hk
    obtain ⟨n191, e191, h⟩ := bd h
    have hk := Gr.trans hk (gr_A (by decide) e191)
    obtain ⟨μ193, e193, h⟩ := bd h
    have hk := Gr.after (Gr.of (kq_pfP e193)) hk
    obtain ⟨n200, e200, h⟩ := bd h
    have hk := Gr.trans hk (gr_A (by decide) e200)
    obtain ⟨μ202, e202, h⟩ := bd h
    have hk := Gr.after (Gr.of (kq_pfP e202)) hk
    obtain ⟨n209, e209, h⟩ := bd h
    have hk := Gr.trans hk (gr_A (by decide) e209)
    obtain ⟨μ211, e211, h⟩ := bd h
    have hk := Gr.after (Gr.of (kq_pfP e211)) hk
    obtain ⟨n217, e217, h⟩ := bd h
    have hk := Gr.trans hk (gr_A (by decide) e217)
    obtain ⟨μ219, e219, h⟩ := bd h
    have hk := Gr.after (Gr.of (kq_pfP e219)) hk
    obtain ⟨n225, e225, h⟩ := bd h
    have hk := Gr.trans hk (gr_A (by decide) e225)
    obtain ⟨μ227, e227, h⟩ := bd h
    have hk := Gr.after (Gr.of (kq_pfP e227)) hk
    obtain ⟨n233, e233, h⟩ := bd h
    have hk := Gr.trans hk (gr_A (by decide) e233)
    obtain ⟨μ235, e235, h⟩ := bd h
    have hk := Gr.after (Gr.of (kq_pfP e235)) hk
    obtain ⟨n241, e241, h⟩ := bd h
    have hk := Gr.trans hk (gr_A (by decide) e241)
    obtain ⟨μ243, e243, h⟩ := bd h
    have hk := Gr.after (Gr.of (kq_pfP e243)) hk
    obtain ⟨n249, e249, h⟩ := bd h
    have hk := Gr.trans hk (gr_A (by decide) e249)
    obtain ⟨μ251, e251, h⟩ := bd h
    have hk := Gr.after (Gr.of (kq_pfP e251)) hk
    obtain ⟨n257, e257, h⟩ := bd h
    have hk := Gr.trans hk (gr_A (by decide) e257)
    obtain ⟨μ259, e259, h⟩ := bd h
    have hk := Gr.after (Gr.of (kq_pfP e259)) hk
    obtain ⟨n265, e265, h⟩ := bd h
    have hk := Gr.trans hk (gr_A (by decide) e265)
    obtain ⟨μ267, e267, h⟩ := bd h
    have hk := Gr.after (Gr.of (kq_pfP e267)) hk
    obtain ⟨n273, e273, h⟩ := bd h
    have hk := Gr.trans hk (gr_A (by decide) e273)
    obtain ⟨μ275, e275, h⟩ := bd h
    have hk := Gr.after (Gr.of (kq_pfP e275)) hk
    obtain ⟨n282, e282, h⟩ := bd h
    have hk := Gr.trans hk (gr_A (by decide) e282)
    obtain ⟨μ284, e284, h⟩ := bd h
    have hk := Gr.after (Gr.of (kq_pfP e284)) hk
    obtain ⟨n291, e291, h⟩ := bd h
    have hk := Gr.trans hk (gr_A (by decide) e291)
    obtain ⟨μ293, e293, h⟩ := bd h
    have hk := Gr.after (Gr.of (kq_pfP e293)) hk
    obtain ⟨n299, e299, h⟩ := bd h
    have hk := Gr.trans hk (gr_A (by decide) e299)
    obtain ⟨μ301, e301, h⟩ := bd h
    have hk := Gr.after (Gr.of (kq_pfP e301)) hk
    obtain ⟨n307, e307, h⟩ := bd h
    have hk := Gr.trans hk (gr_A (by decide) e307)
    obtain ⟨μ309, e309, h⟩ := bd h
    have hk := Gr.after (Gr.of (kq_pfP e309)) hk
    obtain ⟨n315, e315, h⟩ := bd h
    have hk := Gr.trans hk (gr_A (by decide) e315)
    obtain ⟨μ317, e317, h⟩ := bd h
    have hk := Gr.after (Gr.of (kq_pfP e317)) hk
    obtain ⟨n324, e324, h⟩ := bd h
    have hk := Gr.trans hk (gr_A (by decide) e324)
    obtain ⟨μ326, e326, h⟩ := bd h
    have hk := Gr.after (Gr.of (kq_pfP e326)) hk
    obtain ⟨n332, e332, h⟩ := bd h
    have hk := Gr.trans hk (gr_A (by decide) e332)
    obtain ⟨μ334, e334, h⟩ := bd h
    have hk := Gr.after (Gr.of (kq_pfP e334)) hk
    obtain ⟨n339, e339, h⟩ := bd h
    have hk := Gr.trans hk (gr_A (by decide) e339)
    obtain ⟨μ341, e341, h⟩ := bd h
    have hk := Gr.after (Gr.of (kq_pfP e341)) hk
    obtain ⟨n346, e346, h⟩ := bd h
    have hk := Gr.trans hk (gr_A (by decide) e346)
    obtain ⟨μ348, e348, h⟩ := bd h
    have hk := Gr.after (Gr.of (kq_pfP e348)) hk
    obtain ⟨n353, e353, h⟩ := bd h
    have hk := Gr.trans hk (gr_A (by decide) e353)
    obtain ⟨μ355, e355, h⟩ := bd h
    have hk := Gr.after (Gr.of (kq_pfP e355)) hk
    obtain ⟨n360, e360, h⟩ := bd h
    have hk := Gr.trans hk (gr_A (by decide) e360)
    obtain ⟨μ362, e362, h⟩ := bd h
    have hk := Gr.after (Gr.of (kq_pfP e362)) hk
    obtain ⟨x366, e366, h⟩ := bd h
    have hk := Gr.after (Gr.of (t_X11_begin e366)) hk
    obtain ⟨x370, e370, h⟩ := bd h
    have hk := Gr.after (Gr.of (t_X11_settle e370)) hk
    have h := Option.some.inj h
    subst h
    exact hk)
  refine r_newarray (t := 20) (by decide) rfl e85 ka_20 hC dX11_init_85 ?_
  obtain ⟨μ87, e87, h⟩ := Sat_bind h
  refine r_putP fk_X11_43 (Or.inr ⟨rfl, rfl, rfl, fl_X11_43⟩) rfl e87 dX11_init_87 ?_
  have hN := nz_tl (kq_pfP e87) hN
  refine r_aload_n dX11_init_90 0 rfl ?_
  refine r_bipush (v := 16) dX11_init_91 (by decide) ?_
  obtain ⟨n93, e93, h⟩ := Sat_bind h
  have hN := nz_A (by decide) e93 hN
  have hC := bud_of hN (by
    obtain ⟨x, h, hx⟩ := id h
    have hk : Gr (n93.2) (n93.2) := Gr.rfl
    refine bud_le (?_ : Gr _ ((fun (q : Mm) => q) x)) (hB x hx)
    obtain ⟨μ95, e95, h⟩ := bd h
    have hk := Gr.after (Gr.of (kq_pfP e95)) hk
    obtain ⟨n101, e101, h⟩ := bd h
    have hk := Gr.trans hk (gr_A (by decide) e101)
    obtain ⟨μ103, e103, h⟩ := bd h
    have hk := Gr.after (Gr.of (kq_pfP e103)) hk
    obtain ⟨n109, e109, h⟩ := bd h
    have hk := Gr.trans hk (gr_A (by decide) e109)
    obtain ⟨μ111, e111, h⟩ := bd h
    have hk := Gr.after (Gr.of (kq_pfP e111)) hk
    obtain ⟨n117, e117, h⟩ := bd h
    have hk := Gr.trans hk (gr_A (by decide) e117)
    obtain ⟨μ119, e119, h⟩ := bd h
    have hk := Gr.after (Gr.of (kq_pfP e119)) hk
    obtain ⟨n125, e125, h⟩ := bd h
    have hk := Gr.trans hk (gr_A (by decide) e125)
    obtain ⟨μ127, e127, h⟩ := bd h
    have hk := Gr.after (Gr.of (kq_pfP e127)) hk
    obtain ⟨n133, e133, h⟩ := bd h
    have hk := Gr.trans hk (gr_A (by decide) e133)
    obtain ⟨μ135, e135, h⟩ := bd h
    have hk := Gr.after (Gr.of (kq_pfP e135)) hk
    obtain ⟨n141, e141, h⟩ := bd h
    have hk := Gr.trans hk (gr_A (by decide) e141)
    obtain ⟨μ143, e143, h⟩ := bd h
    have hk := Gr.after (Gr.of (kq_pfP e143)) hk
    obtain ⟨n149, e149, h⟩ := bd h
    have hk := Gr.trans hk (gr_A (by decide) e149)
    obtain ⟨μ151, e151, h⟩ := bd h
    have hk := Gr.after (Gr.of (kq_pfP e151)) hk
    obtain ⟨n157, e157, h⟩ := bd h
    have hk := Gr.trans hk (gr_A (by decide) e157)
    obtain ⟨μ159, e159, h⟩ := bd h
    have hk := Gr.after (Gr.of (kq_pfP e159)) hk
    obtain ⟨n166, e166, h⟩ := bd h
    have hk := Gr.trans hk (gr_A (by decide) e166)
    obtain ⟨μ168, e168, h⟩ := bd h
    have hk := Gr.after (Gr.of (kq_pfP e168)) hk
    obtain ⟨n174, e174, h⟩ := bd h
    have hk := Gr.trans hk (gr_A (by decide) e174)
    obtain ⟨μ176, e176, h⟩ := bd h
    have hk := Gr.after (Gr.of (kq_pfP e176)) hk
    obtain ⟨n182, e182, h⟩ := bd h
    have hk := Gr.trans hk (gr_A (by decide) e182)
    obtain ⟨μ184, e184, h⟩ := bd h
    have hk := Gr.after (Gr.of (kq_pfP e184)) hk
    obtain ⟨n191, e191, h⟩ := bd h
    have hk := Gr.trans hk (gr_A (by decide) e191)
    obtain ⟨μ193, e193, h⟩ := bd h
    have hk := Gr.after (Gr.of (kq_pfP e193)) hk
    obtain ⟨n200, e200, h⟩ := bd h
    have hk := Gr.trans hk (gr_A (by decide) e200)
    obtain ⟨μ202, e202, h⟩ := bd h
    have hk := Gr.after (Gr.of (kq_pfP e202)) hk
    obtain ⟨n209, e209, h⟩ := bd h
    have hk := Gr.trans hk (gr_A (by decide) e209)
    obtain ⟨μ211, e211, h⟩ := bd h
    have hk := Gr.after (Gr.of (kq_pfP e211)) hk
    obtain ⟨n217, e217, h⟩ := bd h
    have hk := Gr.trans hk (gr_A (by decide) e217)
    obtain ⟨μ219, e219, h⟩ := bd h
    have hk := Gr.after (Gr.of (kq_pfP e219)) hk
    obtain ⟨n225, e225, h⟩ := bd h
    have hk := Gr.trans hk (gr_A (by decide) e225)
    obtain ⟨μ227, e227, h⟩ := bd h
    have hk := Gr.after (Gr.of (kq_pfP e227)) hk
    obtain ⟨n233, e233, h⟩ := bd h
    have hk := Gr.trans hk (gr_A (by decide) e233)
    obtain ⟨μ235, e235, h⟩ := bd h
    have hk := Gr.after (Gr.of (kq_pfP e235)) hk
    obtain ⟨n241, e241, h⟩ := bd h
    have hk := Gr.trans hk (gr_A (by decide) e241)
    obtain ⟨μ243, e243, h⟩ := bd h
    have hk := Gr.after (Gr.of (kq_pfP e243)) hk
    obtain ⟨n249, e249, h⟩ := bd h
    have hk := Gr.trans hk (gr_A (by decide) e249)
    obtain ⟨μ251, e251, h⟩ := bd h
    have hk := Gr.after (Gr.of (kq_pfP e251)) hk
    obtain ⟨n257, e257, h⟩ := bd h
    have hk := Gr.trans hk (gr_A (by decide) e257)
    obtain ⟨μ259, e259, h⟩ := bd h
    have hk := Gr.after (Gr.of (kq_pfP e259)) hk
    obtain ⟨n265, e265, h⟩ := bd h
    have hk := Gr.trans hk (gr_A (by decide) e265)
    obtain ⟨μ267, e267, h⟩ := bd h
    have hk := Gr.after (Gr.of (kq_pfP e267)) hk
    obtain ⟨n273, e273, h⟩ := bd h
    have hk := Gr.trans hk (gr_A (by decide) e273)
    obtain ⟨μ275, e275, h⟩ := bd h
    have hk := Gr.after (Gr.of (kq_pfP e275)) hk
    obtain ⟨n282, e282, h⟩ := bd h
    have hk := Gr.trans hk (gr_A (by decide) e282)
    obtain ⟨μ284, e284, h⟩ := bd h
    have hk := Gr.after (Gr.of (kq_pfP e284)) hk
    obtain ⟨n291, e291, h⟩ := bd h
    have hk := Gr.trans hk (gr_A (by decide) e291)
    obtain ⟨μ293, e293, h⟩ := bd h
    have hk := Gr.after (Gr.of (kq_pfP e293)) hk
    obtain ⟨n299, e299, h⟩ := bd h
    have hk := Gr.trans hk (gr_A (by decide) e299)
    obtain ⟨μ301, e301, h⟩ := bd h
    have hk := Gr.after (Gr.of (kq_pfP e301)) hk
    obtain ⟨n307, e307, h⟩ := bd h
    have hk := Gr.trans hk (gr_A (by decide) e307)
    obtain ⟨μ309, e309, h⟩ := bd h
    have hk := Gr.after (Gr.of (kq_pfP e309)) hk
    obtain ⟨n315, e315, h⟩ := bd h
    have hk := Gr.trans hk (gr_A (by decide) e315)
    obtain ⟨μ317, e317, h⟩ := bd h
    have hk := Gr.after (Gr.of (kq_pfP e317)) hk
    obtain ⟨n324, e324, h⟩ := bd h
    have hk := Gr.trans hk (gr_A (by decide) e324)
    obtain ⟨μ326, e326, h⟩ := bd h
    have hk := Gr.after (Gr.of (kq_pfP e326)) hk
    obtain ⟨n332, e332, h⟩ := bd h
    have hk := Gr.trans hk (gr_A (by decide) e332)
    obtain ⟨μ334, e334, h⟩ := bd h
    have hk := Gr.after (Gr.of (kq_pfP e334)) hk
    obtain ⟨n339, e339, h⟩ := bd h
    have hk := Gr.trans hk (gr_A (by decide) e339)
    obtain ⟨μ341, e341, h⟩ := bd h
    have hk := Gr.after (Gr.of (kq_pfP e341)) hk
    obtain ⟨n346, e346, h⟩ := bd h
    have hk := Gr.trans hk (gr_A (by decide) e346)
    obtain ⟨μ348, e348, h⟩ := bd h
    have hk := Gr.after (Gr.of (kq_pfP e348)) hk
    obtain ⟨n353, e353, h⟩ := bd h
    have hk := Gr.trans hk (gr_A (by decide) e353)
    obtain ⟨μ355, e355, h⟩ := bd h
    have hk := Gr.after (Gr.of (kq_pfP e355)) hk
    obtain ⟨n360, e360, h⟩ := bd h
    have hk := Gr.trans hk (gr_A (by decide) e360)
    obtain ⟨μ362, e362, h⟩ := bd h
    have hk := Gr.after (Gr.of (kq_pfP e362)) hk
    obtain ⟨x366, e366, h⟩ := bd h
    have hk := Gr.after (Gr.of (t_X11_begin e366)) hk
    obtain ⟨x370, e370, h⟩ := bd h
    have hk := Gr.after (Gr.of (t_X11_settle e370)) hk
    have h := Option.some.inj h
    subst h
    exact hk)
  refine r_newarray (t := 20) (by decide) rfl e93 ka_20 hC dX11_init_93 ?_
  obtain ⟨μ95, e95, h⟩ := Sat_bind h
  refine r_putP fk_X11_46 (Or.inr ⟨rfl, rfl, rfl, fl_X11_46⟩) rfl e95 dX11_init_95 ?_
  have hN := nz_tl (kq_pfP e95) hN
  refine r_aload_n dX11_init_98 0 rfl ?_
  refine r_bipush (v := 16) dX11_init_99 (by decide) ?_
  obtain ⟨n101, e101, h⟩ := Sat_bind h
  have hN := nz_A (by decide) e101 hN
  have hC := bud_of hN (by
    obtain ⟨x, h, hx⟩ := id h
    have hk : Gr (n101.2) (n101.2) := Gr.rfl
    refine bud_le (?_ : Gr _ ((fun (q : Mm) => q) x)) (hB x hx)
    obtain ⟨μ103, e103, h⟩ := bd h
    have hk := Gr.after (Gr.of (kq_pfP e103)) hk
    obtain ⟨n109, e109, h⟩ := bd h
    have hk := Gr.trans hk (gr_A (by decide) e109)
    obtain ⟨μ111, e111, h⟩ := bd h
    have hk := Gr.after (Gr.of (kq_pfP e111)) hk
    obtain ⟨n117, e117, h⟩ := bd h
    have hk := Gr.trans hk (gr_A (by decide) e117)
    obtain ⟨μ119, e119, h⟩ := bd h
    have hk := Gr.after (Gr.of (kq_pfP e119)) hk
    obtain ⟨n125, e125, h⟩ := bd h
    have hk := Gr.trans hk (gr_A (by decide) e125)
    obtain ⟨μ127, e127, h⟩ := bd h
    have hk := Gr.after (Gr.of (kq_pfP e127)) hk
    obtain ⟨n133, e133, h⟩ := bd h
    have hk := Gr.trans hk (gr_A (by decide) e133)
    obtain ⟨μ135, e135, h⟩ := bd h
    have hk := Gr.after (Gr.of (kq_pfP e135)) hk
    obtain ⟨n141, e141, h⟩ := bd h
    have hk := Gr.trans hk (gr_A (by decide) e141)
    obtain ⟨μ143, e143, h⟩ := bd h
    have hk := Gr.after (Gr.of (kq_pfP e143)) hk
    obtain ⟨n149, e149, h⟩ := bd h
    have hk := Gr.trans hk (gr_A (by decide) e149)
    obtain ⟨μ151, e151, h⟩ := bd h
    have hk := Gr.after (Gr.of (kq_pfP e151)) hk
    obtain ⟨n157, e157, h⟩ := bd h
    have hk := Gr.trans hk (gr_A (by decide) e157)
    obtain ⟨μ159, e159, h⟩ := bd h
    have hk := Gr.after (Gr.of (kq_pfP e159)) hk
    obtain ⟨n166, e166, h⟩ := bd h
    have hk := Gr.trans hk (gr_A (by decide) e166)
    obtain ⟨μ168, e168, h⟩ := bd h
    have hk := Gr.after (Gr.of (kq_pfP e168)) hk
    obtain ⟨n174, e174, h⟩ := bd h
    have hk := Gr.trans hk (gr_A (by decide) e174)
    obtain ⟨μ176, e176, h⟩ := bd h
    have hk := Gr.after (Gr.of (kq_pfP e176)) hk
    obtain ⟨n182, e182, h⟩ := bd h
    have hk := Gr.trans hk (gr_A (by decide) e182)
    obtain ⟨μ184, e184, h⟩ := bd h
    have hk := Gr.after (Gr.of (kq_pfP e184)) hk
    obtain ⟨n191, e191, h⟩ := bd h
    have hk := Gr.trans hk (gr_A (by decide) e191)
    obtain ⟨μ193, e193, h⟩ := bd h
    have hk := Gr.after (Gr.of (kq_pfP e193)) hk
    obtain ⟨n200, e200, h⟩ := bd h
    have hk := Gr.trans hk (gr_A (by decide) e200)
    obtain ⟨μ202, e202, h⟩ := bd h
    have hk := Gr.after (Gr.of (kq_pfP e202)) hk
    obtain ⟨n209, e209, h⟩ := bd h
    have hk := Gr.trans hk (gr_A (by decide) e209)
    obtain ⟨μ211, e211, h⟩ := bd h
    have hk := Gr.after (Gr.of (kq_pfP e211)) hk
    obtain ⟨n217, e217, h⟩ := bd h
    have hk := Gr.trans hk (gr_A (by decide) e217)
    obtain ⟨μ219, e219, h⟩ := bd h
    have hk := Gr.after (Gr.of (kq_pfP e219)) hk
    obtain ⟨n225, e225, h⟩ := bd h
    have hk := Gr.trans hk (gr_A (by decide) e225)
    obtain ⟨μ227, e227, h⟩ := bd h
    have hk := Gr.after (Gr.of (kq_pfP e227)) hk
    obtain ⟨n233, e233, h⟩ := bd h
    have hk := Gr.trans hk (gr_A (by decide) e233)
    obtain ⟨μ235, e235, h⟩ := bd h
    have hk := Gr.after (Gr.of (kq_pfP e235)) hk
    obtain ⟨n241, e241, h⟩ := bd h
    have hk := Gr.trans hk (gr_A (by decide) e241)
    obtain ⟨μ243, e243, h⟩ := bd h
    have hk := Gr.after (Gr.of (kq_pfP e243)) hk
    obtain ⟨n249, e249, h⟩ := bd h
    have hk := Gr.trans hk (gr_A (by decide) e249)
    obtain ⟨μ251, e251, h⟩ := bd h
    have hk := Gr.after (Gr.of (kq_pfP e251)) hk
    obtain ⟨n257, e257, h⟩ := bd h
    have hk := Gr.trans hk (gr_A (by decide) e257)
    obtain ⟨μ259, e259, h⟩ := bd h
    have hk := Gr.after (Gr.of (kq_pfP e259)) hk
    obtain ⟨n265, e265, h⟩ := bd h
    have hk := Gr.trans hk (gr_A (by decide) e265)
    obtain ⟨μ267, e267, h⟩ := bd h
    have hk := Gr.after (Gr.of (kq_pfP e267)) hk
    obtain ⟨n273, e273, h⟩ := bd h
    have hk := Gr.trans hk (gr_A (by decide) e273)
    obtain ⟨μ275, e275, h⟩ := bd h
    have hk := Gr.after (Gr.of (kq_pfP e275)) hk
    obtain ⟨n282, e282, h⟩ := bd h
    have hk := Gr.trans hk (gr_A (by decide) e282)
    obtain ⟨μ284, e284, h⟩ := bd h
    have hk := Gr.after (Gr.of (kq_pfP e284)) hk
    obtain ⟨n291, e291, h⟩ := bd h
    have hk := Gr.trans hk (gr_A (by decide) e291)
    obtain ⟨μ293, e293, h⟩ := bd h
    have hk := Gr.after (Gr.of (kq_pfP e293)) hk
    obtain ⟨n299, e299, h⟩ := bd h
    have hk := Gr.trans hk (gr_A (by decide) e299)
    obtain ⟨μ301, e301, h⟩ := bd h
    have hk := Gr.after (Gr.of (kq_pfP e301)) hk
    obtain ⟨n307, e307, h⟩ := bd h
    have hk := Gr.trans hk (gr_A (by decide) e307)
    obtain ⟨μ309, e309, h⟩ := bd h
    have hk := Gr.after (Gr.of (kq_pfP e309)) hk
    obtain ⟨n315, e315, h⟩ := bd h
    have hk := Gr.trans hk (gr_A (by decide) e315)
    obtain ⟨μ317, e317, h⟩ := bd h
    have hk := Gr.after (Gr.of (kq_pfP e317)) hk
    obtain ⟨n324, e324, h⟩ := bd h
    have hk := Gr.trans hk (gr_A (by decide) e324)
    obtain ⟨μ326, e326, h⟩ := bd h
    have hk := Gr.after (Gr.of (kq_pfP e326)) hk
    obtain ⟨n332, e332, h⟩ := bd h
    have hk := Gr.trans hk (gr_A (by decide) e332)
    obtain ⟨μ334, e334, h⟩ := bd h
    have hk := Gr.after (Gr.of (kq_pfP e334)) hk
    obtain ⟨n339, e339, h⟩ := bd h
    have hk := Gr.trans hk (gr_A (by decide) e339)
    obtain ⟨μ341, e341, h⟩ := bd h
    have hk := Gr.after (Gr.of (kq_pfP e341)) hk
    obtain ⟨n346, e346, h⟩ := bd h
    have hk := Gr.trans hk (gr_A (by decide) e346)
    obtain ⟨μ348, e348, h⟩ := bd h
    have hk := Gr.after (Gr.of (kq_pfP e348)) hk
    obtain ⟨n353, e353, h⟩ := bd h
    have hk := Gr.trans hk (gr_A (by decide) e353)
    obtain ⟨μ355, e355, h⟩ := bd h
    have hk := Gr.after (Gr.of (kq_pfP e355)) hk
    obtain ⟨n360, e360, h⟩ := bd h
    have hk := Gr.trans hk (gr_A (by decide) e360)
    obtain ⟨μ362, e362, h⟩ := bd h
    have hk := Gr.after (Gr.of (kq_pfP e362)) hk
    obtain ⟨x366, e366, h⟩ := bd h
    have hk := Gr.after (Gr.of (t_X11_begin e366)) hk
    obtain ⟨x370, e370, h⟩ := bd h
    have hk := Gr.after (Gr.of (t_X11_settle e370)) hk
    have h := Option.some.inj h
    subst h
    exact hk)
  refine r_newarray (t := 20) (by decide) rfl e101 ka_20 hC dX11_init_101 ?_
  obtain ⟨μ103, e103, h⟩ := Sat_bind h
  refine r_putP fk_X11_49 (Or.inr ⟨rfl, rfl, rfl, fl_X11_49⟩) rfl e103 dX11_init_103 ?_
  have hN := nz_tl (kq_pfP e103) hN
  refine r_aload_n dX11_init_106 0 rfl ?_
  refine r_bipush (v := 16) dX11_init_107 (by decide) ?_
  obtain ⟨n109, e109, h⟩ := Sat_bind h
  have hN := nz_A (by decide) e109 hN
  have hC := bud_of hN (by
    obtain ⟨x, h, hx⟩ := id h
    have hk : Gr (n109.2) (n109.2) := Gr.rfl
    refine bud_le (?_ : Gr _ ((fun (q : Mm) => q) x)) (hB x hx)
    obtain ⟨μ111, e111, h⟩ := bd h
    have hk := Gr.after (Gr.of (kq_pfP e111)) hk
    obtain ⟨n117, e117, h⟩ := bd h
    have hk := Gr.trans hk (gr_A (by decide) e117)
    obtain ⟨μ119, e119, h⟩ := bd h
    have hk := Gr.after (Gr.of (kq_pfP e119)) hk
    obtain ⟨n125, e125, h⟩ := bd h
    have hk := Gr.trans hk (gr_A (by decide) e125)
    obtain ⟨μ127, e127, h⟩ := bd h
    have hk := Gr.after (Gr.of (kq_pfP e127)) hk
    obtain ⟨n133, e133, h⟩ := bd h
    have hk := Gr.trans hk (gr_A (by decide) e133)
    obtain ⟨μ135, e135, h⟩ := bd h
    have hk := Gr.after (Gr.of (kq_pfP e135)) hk
    obtain ⟨n141, e141, h⟩ := bd h
    have hk := Gr.trans hk (gr_A (by decide) e141)
    obtain ⟨μ143, e143, h⟩ := bd h
    have hk := Gr.after (Gr.of (kq_pfP e143)) hk
    obtain ⟨n149, e149, h⟩ := bd h
    have hk := Gr.trans hk (gr_A (by decide) e149)
    obtain ⟨μ151, e151, h⟩ := bd h
    have hk := Gr.after (Gr.of (kq_pfP e151)) hk
    obtain ⟨n157, e157, h⟩ := bd h
    have hk := Gr.trans hk (gr_A (by decide) e157)
    obtain ⟨μ159, e159, h⟩ := bd h
    have hk := Gr.after (Gr.of (kq_pfP e159)) hk
    obtain ⟨n166, e166, h⟩ := bd h
    have hk := Gr.trans hk (gr_A (by decide) e166)
    obtain ⟨μ168, e168, h⟩ := bd h
    have hk := Gr.after (Gr.of (kq_pfP e168)) hk
    obtain ⟨n174, e174, h⟩ := bd h
    have hk := Gr.trans hk (gr_A (by decide) e174)
    obtain ⟨μ176, e176, h⟩ := bd h
    have hk := Gr.after (Gr.of (kq_pfP e176)) hk
    obtain ⟨n182, e182, h⟩ := bd h
    have hk := Gr.trans hk (gr_A (by decide) e182)
    obtain ⟨μ184, e184, h⟩ := bd h
    have hk := Gr.after (Gr.of (kq_pfP e184)) hk
    obtain ⟨n191, e191, h⟩ := bd h
    have hk := Gr.trans hk (gr_A (by decide) e191)
    obtain ⟨μ193, e193, h⟩ := bd h
    have hk := Gr.after (Gr.of (kq_pfP e193)) hk
    obtain ⟨n200, e200, h⟩ := bd h
    have hk := Gr.trans hk (gr_A (by decide) e200)
    obtain ⟨μ202, e202, h⟩ := bd h
    have hk := Gr.after (Gr.of (kq_pfP e202)) hk
    obtain ⟨n209, e209, h⟩ := bd h
    have hk := Gr.trans hk (gr_A (by decide) e209)
    obtain ⟨μ211, e211, h⟩ := bd h
    have hk := Gr.after (Gr.of (kq_pfP e211)) hk
    obtain ⟨n217, e217, h⟩ := bd h
    have hk := Gr.trans hk (gr_A (by decide) e217)
    obtain ⟨μ219, e219, h⟩ := bd h
    have hk := Gr.after (Gr.of (kq_pfP e219)) hk
    obtain ⟨n225, e225, h⟩ := bd h
    have hk := Gr.trans hk (gr_A (by decide) e225)
    obtain ⟨μ227, e227, h⟩ := bd h
    have hk := Gr.after (Gr.of (kq_pfP e227)) hk
    obtain ⟨n233, e233, h⟩ := bd h
    have hk := Gr.trans hk (gr_A (by decide) e233)
    obtain ⟨μ235, e235, h⟩ := bd h
    have hk := Gr.after (Gr.of (kq_pfP e235)) hk
    obtain ⟨n241, e241, h⟩ := bd h
    have hk := Gr.trans hk (gr_A (by decide) e241)
    obtain ⟨μ243, e243, h⟩ := bd h
    have hk := Gr.after (Gr.of (kq_pfP e243)) hk
    obtain ⟨n249, e249, h⟩ := bd h
    have hk := Gr.trans hk (gr_A (by decide) e249)
    obtain ⟨μ251, e251, h⟩ := bd h
    have hk := Gr.after (Gr.of (kq_pfP e251)) hk
    obtain ⟨n257, e257, h⟩ := bd h
    have hk := Gr.trans hk (gr_A (by decide) e257)
    obtain ⟨μ259, e259, h⟩ := bd h
    have hk := Gr.after (Gr.of (kq_pfP e259)) hk
    obtain ⟨n265, e265, h⟩ := bd h
    have hk := Gr.trans hk (gr_A (by decide) e265)
    obtain ⟨μ267, e267, h⟩ := bd h
    have hk := Gr.after (Gr.of (kq_pfP e267)) hk
    obtain ⟨n273, e273, h⟩ := bd h
    have hk := Gr.trans hk (gr_A (by decide) e273)
    obtain ⟨μ275, e275, h⟩ := bd h
    have hk := Gr.after (Gr.of (kq_pfP e275)) hk
    obtain ⟨n282, e282, h⟩ := bd h
    have hk := Gr.trans hk (gr_A (by decide) e282)
    obtain ⟨μ284, e284, h⟩ := bd h
    have hk := Gr.after (Gr.of (kq_pfP e284)) hk
    obtain ⟨n291, e291, h⟩ := bd h
    have hk := Gr.trans hk (gr_A (by decide) e291)
    obtain ⟨μ293, e293, h⟩ := bd h
    have hk := Gr.after (Gr.of (kq_pfP e293)) hk
    obtain ⟨n299, e299, h⟩ := bd h
    have hk := Gr.trans hk (gr_A (by decide) e299)
    obtain ⟨μ301, e301, h⟩ := bd h
    have hk := Gr.after (Gr.of (kq_pfP e301)) hk
    obtain ⟨n307, e307, h⟩ := bd h
    have hk := Gr.trans hk (gr_A (by decide) e307)
    obtain ⟨μ309, e309, h⟩ := bd h
    have hk := Gr.after (Gr.of (kq_pfP e309)) hk
    obtain ⟨n315, e315, h⟩ := bd h
    have hk := Gr.trans hk (gr_A (by decide) e315)
    obtain ⟨μ317, e317, h⟩ := bd h
    have hk := Gr.after (Gr.of (kq_pfP e317)) hk
    obtain ⟨n324, e324, h⟩ := bd h
    have hk := Gr.trans hk (gr_A (by decide) e324)
    obtain ⟨μ326, e326, h⟩ := bd h
    have hk := Gr.after (Gr.of (kq_pfP e326)) hk
    obtain ⟨n332, e332, h⟩ := bd h
    have hk := Gr.trans hk (gr_A (by decide) e332)
    obtain ⟨μ334, e334, h⟩ := bd h
    have hk := Gr.after (Gr.of (kq_pfP e334)) hk
    obtain ⟨n339, e339, h⟩ := bd h
    have hk := Gr.trans hk (gr_A (by decide) e339)
    obtain ⟨μ341, e341, h⟩ := bd h
    have hk := Gr.after (Gr.of (kq_pfP e341)) hk
    obtain ⟨n346, e346, h⟩ := bd h
    have hk := Gr.trans hk (gr_A (by decide) e346)
    obtain ⟨μ348, e348, h⟩ := bd h
    have hk := Gr.after (Gr.of (kq_pfP e348)) hk
    obtain ⟨n353, e353, h⟩ := bd h
    have hk := Gr.trans hk (gr_A (by decide) e353)
    obtain ⟨μ355, e355, h⟩ := bd h
    have hk := Gr.after (Gr.of (kq_pfP e355)) hk
    obtain ⟨n360, e360, h⟩ := bd h
    have hk := Gr.trans hk (gr_A (by decide) e360)
    obtain ⟨μ362, e362, h⟩ := bd h
    have hk := Gr.after (Gr.of (kq_pfP e362)) hk
    obtain ⟨x366, e366, h⟩ := bd h
    have hk := Gr.after (Gr.of (t_X11_begin e366)) hk
    obtain ⟨x370, e370, h⟩ := bd h
    have hk := Gr.after (Gr.of (t_X11_settle e370)) hk
    have h := Option.some.inj h
    subst h
    exact hk)
  refine r_newarray (t := 20) (by decide) rfl e109 ka_20 hC dX11_init_109 ?_
  obtain ⟨μ111, e111, h⟩ := Sat_bind h
  refine r_putP fk_X11_52 (Or.inr ⟨rfl, rfl, rfl, fl_X11_52⟩) rfl e111 dX11_init_111 ?_
  have hN := nz_tl (kq_pfP e111) hN
  refine r_aload_n dX11_init_114 0 rfl ?_
  refine r_bipush (v := 16) dX11_init_115 (by decide) ?_
  obtain ⟨n117, e117, h⟩ := Sat_bind h
  have hN := nz_A (by decide) e117 hN
  have hC := bud_of hN (by
    obtain ⟨x, h, hx⟩ := id h
    have hk : Gr (n117.2) (n117.2) := Gr.rfl
    refine bud_le (?_ : Gr _ ((fun (q : Mm) => q) x)) (hB x hx)
    obtain ⟨μ119, e119, h⟩ := bd h
    have hk := Gr.after (Gr.of (kq_pfP e119)) hk
    obtain ⟨n125, e125, h⟩ := bd h
    have hk := Gr.trans hk (gr_A (by decide) e125)
    obtain ⟨μ127, e127, h⟩ := bd h
    have hk := Gr.after (Gr.of (kq_pfP e127)) hk
    obtain ⟨n133, e133, h⟩ := bd h
    have hk := Gr.trans hk (gr_A (by decide) e133)
    obtain ⟨μ135, e135, h⟩ := bd h
    have hk := Gr.after (Gr.of (kq_pfP e135)) hk
    obtain ⟨n141, e141, h⟩ := bd h
    have hk := Gr.trans hk (gr_A (by decide) e141)
    obtain ⟨μ143, e143, h⟩ := bd h
    have hk := Gr.after (Gr.of (kq_pfP e143)) hk
    obtain ⟨n149, e149, h⟩ := bd h
    have hk := Gr.trans hk (gr_A (by decide) e149)
    obtain ⟨μ151, e151, h⟩ := bd h
    have hk := Gr.after (Gr.of (kq_pfP e151)) hk
    obtain ⟨n157, e157, h⟩ := bd h
    have hk := Gr.trans hk (gr_A (by decide) e157)
    obtain ⟨μ159, e159, h⟩ := bd h
    have hk := Gr.after (Gr.of (kq_pfP e159)) hk
    obtain ⟨n166, e166, h⟩ := bd h
    have hk := Gr.trans hk (gr_A (by decide) e166)
    obtain ⟨μ168, e168, h⟩ := bd h
    have hk := Gr.after (Gr.of (kq_pfP e168)) hk
    obtain ⟨n174, e174, h⟩ := bd h
    have hk := Gr.trans hk (gr_A (by decide) e174)
    obtain ⟨μ176, e176, h⟩ := bd h
    have hk := Gr.after (Gr.of (kq_pfP e176)) hk
    obtain ⟨n182, e182, h⟩ := bd h
    have hk := Gr.trans hk (gr_A (by decide) e182)
    obtain ⟨μ184, e184, h⟩ := bd h
    have hk := Gr.after (Gr.of (kq_pfP e184)) hk
    obtain ⟨n191, e191, h⟩ := bd h
    have hk := Gr.trans hk (gr_A (by decide) e191)
    obtain ⟨μ193, e193, h⟩ := bd h
    have hk := Gr.after (Gr.of (kq_pfP e193)) hk
    obtain ⟨n200, e200, h⟩ := bd h
    have hk := Gr.trans hk (gr_A (by decide) e200)
    obtain ⟨μ202, e202, h⟩ := bd h
    have hk := Gr.after (Gr.of (kq_pfP e202)) hk
    obtain ⟨n209, e209, h⟩ := bd h
    have hk := Gr.trans hk (gr_A (by decide) e209)
    obtain ⟨μ211, e211, h⟩ := bd h
    have hk := Gr.after (Gr.of (kq_pfP e211)) hk
    obtain ⟨n217, e217, h⟩ := bd h
    have hk := Gr.trans hk (gr_A (by decide) e217)
    obtain ⟨μ219, e219, h⟩ := bd h
    have hk := Gr.after (Gr.of (kq_pfP e219)) hk
    obtain ⟨n225, e225, h⟩ := bd h
    have hk := Gr.trans hk (gr_A (by decide) e225)
    obtain ⟨μ227, e227, h⟩ := bd h
    have hk := Gr.after (Gr.of (kq_pfP e227)) hk
    obtain ⟨n233, e233, h⟩ := bd h
    have hk := Gr.trans hk (gr_A (by decide) e233)
    obtain ⟨μ235, e235, h⟩ := bd h
    have hk := Gr.after (Gr.of (kq_pfP e235)) hk
    obtain ⟨n241, e241, h⟩ := bd h
    have hk := Gr.trans hk (gr_A (by decide) e241)
    obtain ⟨μ243, e243, h⟩ := bd h
    have hk := Gr.after (Gr.of (kq_pfP e243)) hk
    obtain ⟨n249, e249, h⟩ := bd h
    have hk := Gr.trans hk (gr_A (by decide) e249)
    obtain ⟨μ251, e251, h⟩ := bd h
    have hk := Gr.after (Gr.of (kq_pfP e251)) hk
    obtain ⟨n257, e257, h⟩ := bd h
    have hk := Gr.trans hk (gr_A (by decide) e257)
    obtain ⟨μ259, e259, h⟩ := bd h
    have hk := Gr.after (Gr.of (kq_pfP e259)) hk
    obtain ⟨n265, e265, h⟩ := bd h
    have hk := Gr.trans hk (gr_A (by decide) e265)
    obtain ⟨μ267, e267, h⟩ := bd h
    have hk := Gr.after (Gr.of (kq_pfP e267)) hk
    obtain ⟨n273, e273, h⟩ := bd h
    have hk := Gr.trans hk (gr_A (by decide) e273)
    obtain ⟨μ275, e275, h⟩ := bd h
    have hk := Gr.after (Gr.of (kq_pfP e275)) hk
    obtain ⟨n282, e282, h⟩ := bd h
    have hk := Gr.trans hk (gr_A (by decide) e282)
    obtain ⟨μ284, e284, h⟩ := bd h
    have hk := Gr.after (Gr.of (kq_pfP e284)) hk
    obtain ⟨n291, e291, h⟩ := bd h
    have hk := Gr.trans hk (gr_A (by decide) e291)
    obtain ⟨μ293, e293, h⟩ := bd h
    have hk := Gr.after (Gr.of (kq_pfP e293)) hk
    obtain ⟨n299, e299, h⟩ := bd h
    have hk := Gr.trans hk (gr_A (by decide) e299)
    obtain ⟨μ301, e301, h⟩ := bd h
    have hk := Gr.after (Gr.of (kq_pfP e301)) hk
    obtain ⟨n307, e307, h⟩ := bd h
    have hk := Gr.trans hk (gr_A (by decide) e307)
    obtain ⟨μ309, e309, h⟩ := bd h
    have hk := Gr.after (Gr.of (kq_pfP e309)) hk
    obtain ⟨n315, e315, h⟩ := bd h
    have hk := Gr.trans hk (gr_A (by decide) e315)
    obtain ⟨μ317, e317, h⟩ := bd h
    have hk := Gr.after (Gr.of (kq_pfP e317)) hk
    obtain ⟨n324, e324, h⟩ := bd h
    have hk := Gr.trans hk (gr_A (by decide) e324)
    obtain ⟨μ326, e326, h⟩ := bd h
    have hk := Gr.after (Gr.of (kq_pfP e326)) hk
    obtain ⟨n332, e332, h⟩ := bd h
    have hk := Gr.trans hk (gr_A (by decide) e332)
    obtain ⟨μ334, e334, h⟩ := bd h
    have hk := Gr.after (Gr.of (kq_pfP e334)) hk
    obtain ⟨n339, e339, h⟩ := bd h
    have hk := Gr.trans hk (gr_A (by decide) e339)
    obtain ⟨μ341, e341, h⟩ := bd h
    have hk := Gr.after (Gr.of (kq_pfP e341)) hk
    obtain ⟨n346, e346, h⟩ := bd h
    have hk := Gr.trans hk (gr_A (by decide) e346)
    obtain ⟨μ348, e348, h⟩ := bd h
    have hk := Gr.after (Gr.of (kq_pfP e348)) hk
    obtain ⟨n353, e353, h⟩ := bd h
    have hk := Gr.trans hk (gr_A (by decide) e353)
    obtain ⟨μ355, e355, h⟩ := bd h
    have hk := Gr.after (Gr.of (kq_pfP e355)) hk
    obtain ⟨n360, e360, h⟩ := bd h
    have hk := Gr.trans hk (gr_A (by decide) e360)
    obtain ⟨μ362, e362, h⟩ := bd h
    have hk := Gr.after (Gr.of (kq_pfP e362)) hk
    obtain ⟨x366, e366, h⟩ := bd h
    have hk := Gr.after (Gr.of (t_X11_begin e366)) hk
    obtain ⟨x370, e370, h⟩ := bd h
    have hk := Gr.after (Gr.of (t_X11_settle e370)) hk
    have h := Option.some.inj h
    subst h
    exact hk)
  refine r_newarray (t := 20) (by decide) rfl e117 ka_20 hC dX11_init_117 ?_
  obtain ⟨μ119, e119, h⟩ := Sat_bind h
  refine r_putP fk_X11_55 (Or.inr ⟨rfl, rfl, rfl, fl_X11_55⟩) rfl e119 dX11_init_119 ?_
  have hN := nz_tl (kq_pfP e119) hN
  refine r_aload_n dX11_init_122 0 rfl ?_
  refine r_bipush (v := 16) dX11_init_123 (by decide) ?_
  obtain ⟨n125, e125, h⟩ := Sat_bind h
  have hN := nz_A (by decide) e125 hN
  have hC := bud_of hN (by
    obtain ⟨x, h, hx⟩ := id h
    have hk : Gr (n125.2) (n125.2) := Gr.rfl
    refine bud_le (?_ : Gr _ ((fun (q : Mm) => q) x)) (hB x hx)
    obtain ⟨μ127, e127, h⟩ := bd h
    have hk := Gr.after (Gr.of (kq_pfP e127)) hk
    obtain ⟨n133, e133, h⟩ := bd h
    have hk := Gr.trans hk (gr_A (by decide) e133)
    obtain ⟨μ135, e135, h⟩ := bd h
    have hk := Gr.after (Gr.of (kq_pfP e135)) hk
    obtain ⟨n141, e141, h⟩ := bd h
    have hk := Gr.trans hk (gr_A (by decide) e141)
    obtain ⟨μ143, e143, h⟩ := bd h
    have hk := Gr.after (Gr.of (kq_pfP e143)) hk
    obtain ⟨n149, e149, h⟩ := bd h
    have hk := Gr.trans hk (gr_A (by decide) e149)
    obtain ⟨μ151, e151, h⟩ := bd h
    have hk := Gr.after (Gr.of (kq_pfP e151)) hk
    obtain ⟨n157, e157, h⟩ := bd h
    have hk := Gr.trans hk (gr_A (by decide) e157)
    obtain ⟨μ159, e159, h⟩ := bd h
    have hk := Gr.after (Gr.of (kq_pfP e159)) hk
    obtain ⟨n166, e166, h⟩ := bd h
    have hk := Gr.trans hk (gr_A (by decide) e166)
    obtain ⟨μ168, e168, h⟩ := bd h
    have hk := Gr.after (Gr.of (kq_pfP e168)) hk
    obtain ⟨n174, e174, h⟩ := bd h
    have hk := Gr.trans hk (gr_A (by decide) e174)
    obtain ⟨μ176, e176, h⟩ := bd h
    have hk := Gr.after (Gr.of (kq_pfP e176)) hk
    obtain ⟨n182, e182, h⟩ := bd h
    have hk := Gr.trans hk (gr_A (by decide) e182)
    obtain ⟨μ184, e184, h⟩ := bd h
    have hk := Gr.after (Gr.of (kq_pfP e184)) hk
    obtain ⟨n191, e191, h⟩ := bd h
    have hk := Gr.trans hk (gr_A (by decide) e191)
    obtain ⟨μ193, e193, h⟩ := bd h
    have hk := Gr.after (Gr.of (kq_pfP e193)) hk
    obtain ⟨n200, e200, h⟩ := bd h
    have hk := Gr.trans hk (gr_A (by decide) e200)
    obtain ⟨μ202, e202, h⟩ := bd h
    have hk := Gr.after (Gr.of (kq_pfP e202)) hk
    obtain ⟨n209, e209, h⟩ := bd h
    have hk := Gr.trans hk (gr_A (by decide) e209)
    obtain ⟨μ211, e211, h⟩ := bd h
    have hk := Gr.after (Gr.of (kq_pfP e211)) hk
    obtain ⟨n217, e217, h⟩ := bd h
    have hk := Gr.trans hk (gr_A (by decide) e217)
    obtain ⟨μ219, e219, h⟩ := bd h
    have hk := Gr.after (Gr.of (kq_pfP e219)) hk
    obtain ⟨n225, e225, h⟩ := bd h
    have hk := Gr.trans hk (gr_A (by decide) e225)
    obtain ⟨μ227, e227, h⟩ := bd h
    have hk := Gr.after (Gr.of (kq_pfP e227)) hk
    obtain ⟨n233, e233, h⟩ := bd h
    have hk := Gr.trans hk (gr_A (by decide) e233)
    obtain ⟨μ235, e235, h⟩ := bd h
    have hk := Gr.after (Gr.of (kq_pfP e235)) hk
    obtain ⟨n241, e241, h⟩ := bd h
    have hk := Gr.trans hk (gr_A (by decide) e241)
    obtain ⟨μ243, e243, h⟩ := bd h
    have hk := Gr.after (Gr.of (kq_pfP e243)) hk
    obtain ⟨n249, e249, h⟩ := bd h
    have hk := Gr.trans hk (gr_A (by decide) e249)
    obtain ⟨μ251, e251, h⟩ := bd h
    have hk := Gr.after (Gr.of (kq_pfP e251)) hk
    obtain ⟨n257, e257, h⟩ := bd h
    have hk := Gr.trans hk (gr_A (by decide) e257)
    obtain ⟨μ259, e259, h⟩ := bd h
    have hk := Gr.after (Gr.of (kq_pfP e259)) hk
    obtain ⟨n265, e265, h⟩ := bd h
    have hk := Gr.trans hk (gr_A (by decide) e265)
    obtain ⟨μ267, e267, h⟩ := bd h
    have hk := Gr.after (Gr.of (kq_pfP e267)) hk
    obtain ⟨n273, e273, h⟩ := bd h
    have hk := Gr.trans hk (gr_A (by decide) e273)
    obtain ⟨μ275, e275, h⟩ := bd h
    have hk := Gr.after (Gr.of (kq_pfP e275)) hk
    obtain ⟨n282, e282, h⟩ := bd h
    have hk := Gr.trans hk (gr_A (by decide) e282)
    obtain ⟨μ284, e284, h⟩ := bd h
    have hk := Gr.after (Gr.of (kq_pfP e284)) hk
    obtain ⟨n291, e291, h⟩ := bd h
    have hk := Gr.trans hk (gr_A (by decide) e291)
    obtain ⟨μ293, e293, h⟩ := bd h
    have hk := Gr.after (Gr.of (kq_pfP e293)) hk
    obtain ⟨n299, e299, h⟩ := bd h
    have hk := Gr.trans hk (gr_A (by decide) e299)
    obtain ⟨μ301, e301, h⟩ := bd h
    have hk := Gr.after (Gr.of (kq_pfP e301)) hk
    obtain ⟨n307, e307, h⟩ := bd h
    have hk := Gr.trans hk (gr_A (by decide) e307)
    obtain ⟨μ309, e309, h⟩ := bd h
    have hk := Gr.after (Gr.of (kq_pfP e309)) hk
    obtain ⟨n315, e315, h⟩ := bd h
    have hk := Gr.trans hk (gr_A (by decide) e315)
    obtain ⟨μ317, e317, h⟩ := bd h
    have hk := Gr.after (Gr.of (kq_pfP e317)) hk
    obtain ⟨n324, e324, h⟩ := bd h
    have hk := Gr.trans hk (gr_A (by decide) e324)
    obtain ⟨μ326, e326, h⟩ := bd h
    have hk := Gr.after (Gr.of (kq_pfP e326)) hk
    obtain ⟨n332, e332, h⟩ := bd h
    have hk := Gr.trans hk (gr_A (by decide) e332)
    obtain ⟨μ334, e334, h⟩ := bd h
    have hk := Gr.after (Gr.of (kq_pfP e334)) hk
    obtain ⟨n339, e339, h⟩ := bd h
    have hk := Gr.trans hk (gr_A (by decide) e339)
    obtain ⟨μ341, e341, h⟩ := bd h
    have hk := Gr.after (Gr.of (kq_pfP e341)) hk
    obtain ⟨n346, e346, h⟩ := bd h
    have hk := Gr.trans hk (gr_A (by decide) e346)
    obtain ⟨μ348, e348, h⟩ := bd h
    have hk := Gr.after (Gr.of (kq_pfP e348)) hk
    obtain ⟨n353, e353, h⟩ := bd h
    have hk := Gr.trans hk (gr_A (by decide) e353)
    obtain ⟨μ355, e355, h⟩ := bd h
    have hk := Gr.after (Gr.of (kq_pfP e355)) hk
    obtain ⟨n360, e360, h⟩ := bd h
    have hk := Gr.trans hk (gr_A (by decide) e360)
    obtain ⟨μ362, e362, h⟩ := bd h
    have hk := Gr.after (Gr.of (kq_pfP e362)) hk
    obtain ⟨x366, e366, h⟩ := bd h
    have hk := Gr.after (Gr.of (t_X11_begin e366)) hk
    obtain ⟨x370, e370, h⟩ := bd h
    have hk := Gr.after (Gr.of (t_X11_settle e370)) hk
    have h := Option.some.inj h
    subst h
    exact hk)
  refine r_newarray (t := 20) (by decide) rfl e125 ka_20 hC dX11_init_125 ?_
  obtain ⟨μ127, e127, h⟩ := Sat_bind h
  refine r_putP fk_X11_58 (Or.inr ⟨rfl, rfl, rfl, fl_X11_58⟩) rfl e127 dX11_init_127 ?_
  have hN := nz_tl (kq_pfP e127) hN
  refine r_aload_n dX11_init_130 0 rfl ?_
  refine r_bipush (v := 16) dX11_init_131 (by decide) ?_
  obtain ⟨n133, e133, h⟩ := Sat_bind h
  have hN := nz_A (by decide) e133 hN
  have hC := bud_of hN (by
    obtain ⟨x, h, hx⟩ := id h
    have hk : Gr (n133.2) (n133.2) := Gr.rfl
    refine bud_le (?_ : Gr _ ((fun (q : Mm) => q) x)) (hB x hx)
    obtain ⟨μ135, e135, h⟩ := bd h
    have hk := Gr.after (Gr.of (kq_pfP e135)) hk
    obtain ⟨n141, e141, h⟩ := bd h
    have hk := Gr.trans hk (gr_A (by decide) e141)
    obtain ⟨μ143, e143, h⟩ := bd h
    have hk := Gr.after (Gr.of (kq_pfP e143)) hk
    obtain ⟨n149, e149, h⟩ := bd h
    have hk := Gr.trans hk (gr_A (by decide) e149)
    obtain ⟨μ151, e151, h⟩ := bd h
    have hk := Gr.after (Gr.of (kq_pfP e151)) hk
    obtain ⟨n157, e157, h⟩ := bd h
    have hk := Gr.trans hk (gr_A (by decide) e157)
    obtain ⟨μ159, e159, h⟩ := bd h
    have hk := Gr.after (Gr.of (kq_pfP e159)) hk
    obtain ⟨n166, e166, h⟩ := bd h
    have hk := Gr.trans hk (gr_A (by decide) e166)
    obtain ⟨μ168, e168, h⟩ := bd h
    have hk := Gr.after (Gr.of (kq_pfP e168)) hk
    obtain ⟨n174, e174, h⟩ := bd h
    have hk := Gr.trans hk (gr_A (by decide) e174)
    obtain ⟨μ176, e176, h⟩ := bd h
    have hk := Gr.after (Gr.of (kq_pfP e176)) hk
    obtain ⟨n182, e182, h⟩ := bd h
    have hk := Gr.trans hk (gr_A (by decide) e182)
    obtain ⟨μ184, e184, h⟩ := bd h
    have hk := Gr.after (Gr.of (kq_pfP e184)) hk
    obtain ⟨n191, e191, h⟩ := bd h
    have hk := Gr.trans hk (gr_A (by decide) e191)
    obtain ⟨μ193, e193, h⟩ := bd h
    have hk := Gr.after (Gr.of (kq_pfP e193)) hk
    obtain ⟨n200, e200, h⟩ := bd h
    have hk := Gr.trans hk (gr_A (by decide) e200)
    obtain ⟨μ202, e202, h⟩ := bd h
    have hk := Gr.after (Gr.of (kq_pfP e202)) hk
    obtain ⟨n209, e209, h⟩ := bd h
    have hk := Gr.trans hk (gr_A (by decide) e209)
    obtain ⟨μ211, e211, h⟩ := bd h
    have hk := Gr.after (Gr.of (kq_pfP e211)) hk
    obtain ⟨n217, e217, h⟩ := bd h
    have hk := Gr.trans hk (gr_A (by decide) e217)
    obtain ⟨μ219, e219, h⟩ := bd h
    have hk := Gr.after (Gr.of (kq_pfP e219)) hk
    obtain ⟨n225, e225, h⟩ := bd h
    have hk := Gr.trans hk (gr_A (by decide) e225)
    obtain ⟨μ227, e227, h⟩ := bd h
    have hk := Gr.after (Gr.of (kq_pfP e227)) hk
    obtain ⟨n233, e233, h⟩ := bd h
    have hk := Gr.trans hk (gr_A (by decide) e233)
    obtain ⟨μ235, e235, h⟩ := bd h
    have hk := Gr.after (Gr.of (kq_pfP e235)) hk
    obtain ⟨n241, e241, h⟩ := bd h
    have hk := Gr.trans hk (gr_A (by decide) e241)
    obtain ⟨μ243, e243, h⟩ := bd h
    have hk := Gr.after (Gr.of (kq_pfP e243)) hk
    obtain ⟨n249, e249, h⟩ := bd h
    have hk := Gr.trans hk (gr_A (by decide) e249)
    obtain ⟨μ251, e251, h⟩ := bd h
    have hk := Gr.after (Gr.of (kq_pfP e251)) hk
    obtain ⟨n257, e257, h⟩ := bd h
    have hk := Gr.trans hk (gr_A (by decide) e257)
    obtain ⟨μ259, e259, h⟩ := bd h
    have hk := Gr.after (Gr.of (kq_pfP e259)) hk
    obtain ⟨n265, e265, h⟩ := bd h
    have hk := Gr.trans hk (gr_A (by decide) e265)
    obtain ⟨μ267, e267, h⟩ := bd h
    have hk := Gr.after (Gr.of (kq_pfP e267)) hk
    obtain ⟨n273, e273, h⟩ := bd h
    have hk := Gr.trans hk (gr_A (by decide) e273)
    obtain ⟨μ275, e275, h⟩ := bd h
    have hk := Gr.after (Gr.of (kq_pfP e275)) hk
    obtain ⟨n282, e282, h⟩ := bd h
    have hk := Gr.trans hk (gr_A (by decide) e282)
    obtain ⟨μ284, e284, h⟩ := bd h
    have hk := Gr.after (Gr.of (kq_pfP e284)) hk
    obtain ⟨n291, e291, h⟩ := bd h
    have hk := Gr.trans hk (gr_A (by decide) e291)
    obtain ⟨μ293, e293, h⟩ := bd h
    have hk := Gr.after (Gr.of (kq_pfP e293)) hk
    obtain ⟨n299, e299, h⟩ := bd h
    have hk := Gr.trans hk (gr_A (by decide) e299)
    obtain ⟨μ301, e301, h⟩ := bd h
    have hk := Gr.after (Gr.of (kq_pfP e301)) hk
    obtain ⟨n307, e307, h⟩ := bd h
    have hk := Gr.trans hk (gr_A (by decide) e307)
    obtain ⟨μ309, e309, h⟩ := bd h
    have hk := Gr.after (Gr.of (kq_pfP e309)) hk
    obtain ⟨n315, e315, h⟩ := bd h
    have hk := Gr.trans hk (gr_A (by decide) e315)
    obtain ⟨μ317, e317, h⟩ := bd h
    have hk := Gr.after (Gr.of (kq_pfP e317)) hk
    obtain ⟨n324, e324, h⟩ := bd h
    have hk := Gr.trans hk (gr_A (by decide) e324)
    obtain ⟨μ326, e326, h⟩ := bd h
    have hk := Gr.after (Gr.of (kq_pfP e326)) hk
    obtain ⟨n332, e332, h⟩ := bd h
    have hk := Gr.trans hk (gr_A (by decide) e332)
    obtain ⟨μ334, e334, h⟩ := bd h
    have hk := Gr.after (Gr.of (kq_pfP e334)) hk
    obtain ⟨n339, e339, h⟩ := bd h
    have hk := Gr.trans hk (gr_A (by decide) e339)
    obtain ⟨μ341, e341, h⟩ := bd h
    have hk := Gr.after (Gr.of (kq_pfP e341)) hk
    obtain ⟨n346, e346, h⟩ := bd h
    have hk := Gr.trans hk (gr_A (by decide) e346)
    obtain ⟨μ348, e348, h⟩ := bd h
    have hk := Gr.after (Gr.of (kq_pfP e348)) hk
    obtain ⟨n353, e353, h⟩ := bd h
    have hk := Gr.trans hk (gr_A (by decide) e353)
    obtain ⟨μ355, e355, h⟩ := bd h
    have hk := Gr.after (Gr.of (kq_pfP e355)) hk
    obtain ⟨n360, e360, h⟩ := bd h
    have hk := Gr.trans hk (gr_A (by decide) e360)
    obtain ⟨μ362, e362, h⟩ := bd h
    have hk := Gr.after (Gr.of (kq_pfP e362)) hk
    obtain ⟨x366, e366, h⟩ := bd h
    have hk := Gr.after (Gr.of (t_X11_begin e366)) hk
    obtain ⟨x370, e370, h⟩ := bd h
    have hk := Gr.after (Gr.of (t_X11_settle e370)) hk
    have h := Option.some.inj h
    subst h
    exact hk)
  refine r_newarray (t := 20) (by decide) rfl e133 ka_20 hC dX11_init_133 ?_
  obtain ⟨μ135, e135, h⟩ := Sat_bind h
  refine r_putP fk_X11_61 (Or.inr ⟨rfl, rfl, rfl, fl_X11_61⟩) rfl e135 dX11_init_135 ?_
  have hN := nz_tl (kq_pfP e135) hN
  refine r_aload_n dX11_init_138 0 rfl ?_
  refine r_bipush (v := 16) dX11_init_139 (by decide) ?_
  obtain ⟨n141, e141, h⟩ := Sat_bind h
  have hN := nz_A (by decide) e141 hN
  have hC := bud_of hN (by
    obtain ⟨x, h, hx⟩ := id h
    have hk : Gr (n141.2) (n141.2) := Gr.rfl
    refine bud_le (?_ : Gr _ ((fun (q : Mm) => q) x)) (hB x hx)
    obtain ⟨μ143, e143, h⟩ := bd h
    have hk := Gr.after (Gr.of (kq_pfP e143)) hk
    obtain ⟨n149, e149, h⟩ := bd h
    have hk := Gr.trans hk (gr_A (by decide) e149)
    obtain ⟨μ151, e151, h⟩ := bd h
    have hk := Gr.after (Gr.of (kq_pfP e151)) hk
    obtain ⟨n157, e157, h⟩ := bd h
    have hk := Gr.trans hk (gr_A (by decide) e157)
    obtain ⟨μ159, e159, h⟩ := bd h
    have hk := Gr.after (Gr.of (kq_pfP e159)) hk
    obtain ⟨n166, e166, h⟩ := bd h
    have hk := Gr.trans hk (gr_A (by decide) e166)
    obtain ⟨μ168, e168, h⟩ := bd h
    have hk := Gr.after (Gr.of (kq_pfP e168)) hk
    obtain ⟨n174, e174, h⟩ := bd h
    have hk := Gr.trans hk (gr_A (by decide) e174)
    obtain ⟨μ176, e176, h⟩ := bd h
    have hk := Gr.after (Gr.of (kq_pfP e176)) hk
    obtain ⟨n182, e182, h⟩ := bd h
    have hk := Gr.trans hk (gr_A (by decide) e182)
    obtain ⟨μ184, e184, h⟩ := bd h
    have hk := Gr.after (Gr.of (kq_pfP e184)) hk
    obtain ⟨n191, e191, h⟩ := bd h
    have hk := Gr.trans hk (gr_A (by decide) e191)
    obtain ⟨μ193, e193, h⟩ := bd h
    have hk := Gr.after (Gr.of (kq_pfP e193)) hk
    obtain ⟨n200, e200, h⟩ := bd h
    have hk := Gr.trans hk (gr_A (by decide) e200)
    obtain ⟨μ202, e202, h⟩ := bd h
    have hk := Gr.after (Gr.of (kq_pfP e202)) hk
    obtain ⟨n209, e209, h⟩ := bd h
    have hk := Gr.trans hk (gr_A (by decide) e209)
    obtain ⟨μ211, e211, h⟩ := bd h
    have hk := Gr.after (Gr.of (kq_pfP e211)) hk
    obtain ⟨n217, e217, h⟩ := bd h
    have hk := Gr.trans hk (gr_A (by decide) e217)
    obtain ⟨μ219, e219, h⟩ := bd h
    have hk := Gr.after (Gr.of (kq_pfP e219)) hk
    obtain ⟨n225, e225, h⟩ := bd h
    have hk := Gr.trans hk (gr_A (by decide) e225)
    obtain ⟨μ227, e227, h⟩ := bd h
    have hk := Gr.after (Gr.of (kq_pfP e227)) hk
    obtain ⟨n233, e233, h⟩ := bd h
    have hk := Gr.trans hk (gr_A (by decide) e233)
    obtain ⟨μ235, e235, h⟩ := bd h
    have hk := Gr.after (Gr.of (kq_pfP e235)) hk
    obtain ⟨n241, e241, h⟩ := bd h
    have hk := Gr.trans hk (gr_A (by decide) e241)
    obtain ⟨μ243, e243, h⟩ := bd h
    have hk := Gr.after (Gr.of (kq_pfP e243)) hk
    obtain ⟨n249, e249, h⟩ := bd h
    have hk := Gr.trans hk (gr_A (by decide) e249)
    obtain ⟨μ251, e251, h⟩ := bd h
    have hk := Gr.after (Gr.of (kq_pfP e251)) hk
    obtain ⟨n257, e257, h⟩ := bd h
    have hk := Gr.trans hk (gr_A (by decide) e257)
    obtain ⟨μ259, e259, h⟩ := bd h
    have hk := Gr.after (Gr.of (kq_pfP e259)) hk
    obtain ⟨n265, e265, h⟩ := bd h
    have hk := Gr.trans hk (gr_A (by decide) e265)
    obtain ⟨μ267, e267, h⟩ := bd h
    have hk := Gr.after (Gr.of (kq_pfP e267)) hk
    obtain ⟨n273, e273, h⟩ := bd h
    have hk := Gr.trans hk (gr_A (by decide) e273)
    obtain ⟨μ275, e275, h⟩ := bd h
    have hk := Gr.after (Gr.of (kq_pfP e275)) hk
    obtain ⟨n282, e282, h⟩ := bd h
    have hk := Gr.trans hk (gr_A (by decide) e282)
    obtain ⟨μ284, e284, h⟩ := bd h
    have hk := Gr.after (Gr.of (kq_pfP e284)) hk
    obtain ⟨n291, e291, h⟩ := bd h
    have hk := Gr.trans hk (gr_A (by decide) e291)
    obtain ⟨μ293, e293, h⟩ := bd h
    have hk := Gr.after (Gr.of (kq_pfP e293)) hk
    obtain ⟨n299, e299, h⟩ := bd h
    have hk := Gr.trans hk (gr_A (by decide) e299)
    obtain ⟨μ301, e301, h⟩ := bd h
    have hk := Gr.after (Gr.of (kq_pfP e301)) hk
    obtain ⟨n307, e307, h⟩ := bd h
    have hk := Gr.trans hk (gr_A (by decide) e307)
    obtain ⟨μ309, e309, h⟩ := bd h
    have hk := Gr.after (Gr.of (kq_pfP e309)) hk
    obtain ⟨n315, e315, h⟩ := bd h
    have hk := Gr.trans hk (gr_A (by decide) e315)
    obtain ⟨μ317, e317, h⟩ := bd h
    have hk := Gr.after (Gr.of (kq_pfP e317)) hk
    obtain ⟨n324, e324, h⟩ := bd h
    have hk := Gr.trans hk (gr_A (by decide) e324)
    obtain ⟨μ326, e326, h⟩ := bd h
    have hk := Gr.after (Gr.of (kq_pfP e326)) hk
    obtain ⟨n332, e332, h⟩ := bd h
    have hk := Gr.trans hk (gr_A (by decide) e332)
    obtain ⟨μ334, e334, h⟩ := bd h
    have hk := Gr.after (Gr.of (kq_pfP e334)) hk
    obtain ⟨n339, e339, h⟩ := bd h
    have hk := Gr.trans hk (gr_A (by decide) e339)
    obtain ⟨μ341, e341, h⟩ := bd h
    have hk := Gr.after (Gr.of (kq_pfP e341)) hk
    obtain ⟨n346, e346, h⟩ := bd h
    have hk := Gr.trans hk (gr_A (by decide) e346)
    obtain ⟨μ348, e348, h⟩ := bd h
    have hk := Gr.after (Gr.of (kq_pfP e348)) hk
    obtain ⟨n353, e353, h⟩ := bd h
    have hk := Gr.trans hk (gr_A (by decide) e353)
    obtain ⟨μ355, e355, h⟩ := bd h
    have hk := Gr.after (Gr.of (kq_pfP e355)) hk
    obtain ⟨n360, e360, h⟩ := bd h
    have hk := Gr.trans hk (gr_A (by decide) e360)
    obtain ⟨μ362, e362, h⟩ := bd h
    have hk := Gr.after (Gr.of (kq_pfP e362)) hk
    obtain ⟨x366, e366, h⟩ := bd h
    have hk := Gr.after (Gr.of (t_X11_begin e366)) hk
    obtain ⟨x370, e370, h⟩ := bd h
    have hk := Gr.after (Gr.of (t_X11_settle e370)) hk
    have h := Option.some.inj h
    subst h
    exact hk)
  refine r_newarray (t := 20) (by decide) rfl e141 ka_20 hC dX11_init_141 ?_
  obtain ⟨μ143, e143, h⟩ := Sat_bind h
  refine r_putP fk_X11_64 (Or.inr ⟨rfl, rfl, rfl, fl_X11_64⟩) rfl e143 dX11_init_143 ?_
  have hN := nz_tl (kq_pfP e143) hN
  refine r_aload_n dX11_init_146 0 rfl ?_
  refine r_bipush (v := 16) dX11_init_147 (by decide) ?_
  obtain ⟨n149, e149, h⟩ := Sat_bind h
  have hN := nz_A (by decide) e149 hN
  have hC := bud_of hN (by
    obtain ⟨x, h, hx⟩ := id h
    have hk : Gr (n149.2) (n149.2) := Gr.rfl
    refine bud_le (?_ : Gr _ ((fun (q : Mm) => q) x)) (hB x hx)
    obtain ⟨μ151, e151, h⟩ := bd h
    have hk := Gr.after (Gr.of (kq_pfP e151)) hk
    obtain ⟨n157, e157, h⟩ := bd h
    have hk := Gr.trans hk (gr_A (by decide) e157)
    obtain ⟨μ159, e159, h⟩ := bd h
    have hk := Gr.after (Gr.of (kq_pfP e159)) hk
    obtain ⟨n166, e166, h⟩ := bd h
    have hk := Gr.trans hk (gr_A (by decide) e166)
    obtain ⟨μ168, e168, h⟩ := bd h
    have hk := Gr.after (Gr.of (kq_pfP e168)) hk
    obtain ⟨n174, e174, h⟩ := bd h
    have hk := Gr.trans hk (gr_A (by decide) e174)
    obtain ⟨μ176, e176, h⟩ := bd h
    have hk := Gr.after (Gr.of (kq_pfP e176)) hk
    obtain ⟨n182, e182, h⟩ := bd h
    have hk := Gr.trans hk (gr_A (by decide) e182)
    obtain ⟨μ184, e184, h⟩ := bd h
    have hk := Gr.after (Gr.of (kq_pfP e184)) hk
    obtain ⟨n191, e191, h⟩ := bd h
    have hk := Gr.trans hk (gr_A (by decide) e191)
    obtain ⟨μ193, e193, h⟩ := bd h
    have hk := Gr.after (Gr.of (kq_pfP e193)) hk
    obtain ⟨n200, e200, h⟩ := bd h
    have hk := Gr.trans hk (gr_A (by decide) e200)
    obtain ⟨μ202, e202, h⟩ := bd h
    have hk := Gr.after (Gr.of (kq_pfP e202)) hk
    obtain ⟨n209, e209, h⟩ := bd h
    have hk := Gr.trans hk (gr_A (by decide) e209)
    obtain ⟨μ211, e211, h⟩ := bd h
    have hk := Gr.after (Gr.of (kq_pfP e211)) hk
    obtain ⟨n217, e217, h⟩ := bd h
    have hk := Gr.trans hk (gr_A (by decide) e217)
    obtain ⟨μ219, e219, h⟩ := bd h
    have hk := Gr.after (Gr.of (kq_pfP e219)) hk
    obtain ⟨n225, e225, h⟩ := bd h
    have hk := Gr.trans hk (gr_A (by decide) e225)
    obtain ⟨μ227, e227, h⟩ := bd h
    have hk := Gr.after (Gr.of (kq_pfP e227)) hk
    obtain ⟨n233, e233, h⟩ := bd h
    have hk := Gr.trans hk (gr_A (by decide) e233)
    obtain ⟨μ235, e235, h⟩ := bd h
    have hk := Gr.after (Gr.of (kq_pfP e235)) hk
    obtain ⟨n241, e241, h⟩ := bd h
    have hk := Gr.trans hk (gr_A (by decide) e241)
    obtain ⟨μ243, e243, h⟩ := bd h
    have hk := Gr.after (Gr.of (kq_pfP e243)) hk
    obtain ⟨n249, e249, h⟩ := bd h
    have hk := Gr.trans hk (gr_A (by decide) e249)
    obtain ⟨μ251, e251, h⟩ := bd h
    have hk := Gr.after (Gr.of (kq_pfP e251)) hk
    obtain ⟨n257, e257, h⟩ := bd h
    have hk := Gr.trans hk (gr_A (by decide) e257)
    obtain ⟨μ259, e259, h⟩ := bd h
    have hk := Gr.after (Gr.of (kq_pfP e259)) hk
    obtain ⟨n265, e265, h⟩ := bd h
    have hk := Gr.trans hk (gr_A (by decide) e265)
    obtain ⟨μ267, e267, h⟩ := bd h
    have hk := Gr.after (Gr.of (kq_pfP e267)) hk
    obtain ⟨n273, e273, h⟩ := bd h
    have hk := Gr.trans hk (gr_A (by decide) e273)
    obtain ⟨μ275, e275, h⟩ := bd h
    have hk := Gr.after (Gr.of (kq_pfP e275)) hk
    obtain ⟨n282, e282, h⟩ := bd h
    have hk := Gr.trans hk (gr_A (by decide) e282)
    obtain ⟨μ284, e284, h⟩ := bd h
    have hk := Gr.after (Gr.of (kq_pfP e284)) hk
    obtain ⟨n291, e291, h⟩ := bd h
    have hk := Gr.trans hk (gr_A (by decide) e291)
    obtain ⟨μ293, e293, h⟩ := bd h
    have hk := Gr.after (Gr.of (kq_pfP e293)) hk
    obtain ⟨n299, e299, h⟩ := bd h
    have hk := Gr.trans hk (gr_A (by decide) e299)
    obtain ⟨μ301, e301, h⟩ := bd h
    have hk := Gr.after (Gr.of (kq_pfP e301)) hk
    obtain ⟨n307, e307, h⟩ := bd h
    have hk := Gr.trans hk (gr_A (by decide) e307)
    obtain ⟨μ309, e309, h⟩ := bd h
    have hk := Gr.after (Gr.of (kq_pfP e309)) hk
    obtain ⟨n315, e315, h⟩ := bd h
    have hk := Gr.trans hk (gr_A (by decide) e315)
    obtain ⟨μ317, e317, h⟩ := bd h
    have hk := Gr.after (Gr.of (kq_pfP e317)) hk
    obtain ⟨n324, e324, h⟩ := bd h
    have hk := Gr.trans hk (gr_A (by decide) e324)
    obtain ⟨μ326, e326, h⟩ := bd h
    have hk := Gr.after (Gr.of (kq_pfP e326)) hk
    obtain ⟨n332, e332, h⟩ := bd h
    have hk := Gr.trans hk (gr_A (by decide) e332)
    obtain ⟨μ334, e334, h⟩ := bd h
    have hk := Gr.after (Gr.of (kq_pfP e334)) hk
    obtain ⟨n339, e339, h⟩ := bd h
    have hk := Gr.trans hk (gr_A (by decide) e339)
    obtain ⟨μ341, e341, h⟩ := bd h
    have hk := Gr.after (Gr.of (kq_pfP e341)) hk
    obtain ⟨n346, e346, h⟩ := bd h
    have hk := Gr.trans hk (gr_A (by decide) e346)
    obtain ⟨μ348, e348, h⟩ := bd h
    have hk := Gr.after (Gr.of (kq_pfP e348)) hk
    obtain ⟨n353, e353, h⟩ := bd h
    have hk := Gr.trans hk (gr_A (by decide) e353)
    obtain ⟨μ355, e355, h⟩ := bd h
    have hk := Gr.after (Gr.of (kq_pfP e355)) hk
    obtain ⟨n360, e360, h⟩ := bd h
    have hk := Gr.trans hk (gr_A (by decide) e360)
    obtain ⟨μ362, e362, h⟩ := bd h
    have hk := Gr.after (Gr.of (kq_pfP e362)) hk
    obtain ⟨x366, e366, h⟩ := bd h
    have hk := Gr.after (Gr.of (t_X11_begin e366)) hk
    obtain ⟨x370, e370, h⟩ := bd h
    have hk := Gr.after (Gr.of (t_X11_settle e370)) hk
    have h := Option.some.inj h
    subst h
    exact hk)
  refine r_newarray (t := 20) (by decide) rfl e149 ka_20 hC dX11_init_149 ?_
  obtain ⟨μ151, e151, h⟩ := Sat_bind h
  refine r_putP fk_X11_67 (Or.inr ⟨rfl, rfl, rfl, fl_X11_67⟩) rfl e151 dX11_init_151 ?_
  have hN := nz_tl (kq_pfP e151) hN
  refine r_aload_n dX11_init_154 0 rfl ?_
  refine r_bipush (v := 16) dX11_init_155 (by decide) ?_
  obtain ⟨n157, e157, h⟩ := Sat_bind h
  have hN := nz_A (by decide) e157 hN
  have hC := bud_of hN (by
    obtain ⟨x, h, hx⟩ := id h
    have hk : Gr (n157.2) (n157.2) := Gr.rfl
    refine bud_le (?_ : Gr _ ((fun (q : Mm) => q) x)) (hB x hx)
    obtain ⟨μ159, e159, h⟩ := bd h
    have hk := Gr.after (Gr.of (kq_pfP e159)) hk
    obtain ⟨n166, e166, h⟩ := bd h
    have hk := Gr.trans hk (gr_A (by decide) e166)
    obtain ⟨μ168, e168, h⟩ := bd h
    have hk := Gr.after (Gr.of (kq_pfP e168)) hk
    obtain ⟨n174, e174, h⟩ := bd h
    have hk := Gr.trans hk (gr_A (by decide) e174)
    obtain ⟨μ176, e176, h⟩ := bd h
    have hk := Gr.after (Gr.of (kq_pfP e176)) hk
    obtain ⟨n182, e182, h⟩ := bd h
    have hk := Gr.trans hk (gr_A (by decide) e182)
    obtain ⟨μ184, e184, h⟩ := bd h
    have hk := Gr.after (Gr.of (kq_pfP e184)) hk
    obtain ⟨n191, e191, h⟩ := bd h
    have hk := Gr.trans hk (gr_A (by decide) e191)
    obtain ⟨μ193, e193, h⟩ := bd h
    have hk := Gr.after (Gr.of (kq_pfP e193)) hk
    obtain ⟨n200, e200, h⟩ := bd h
    have hk := Gr.trans hk (gr_A (by decide) e200)
    obtain ⟨μ202, e202, h⟩ := bd h
    have hk := Gr.after (Gr.of (kq_pfP e202)) hk
    obtain ⟨n209, e209, h⟩ := bd h
    have hk := Gr.trans hk (gr_A (by decide) e209)
    obtain ⟨μ211, e211, h⟩ := bd h
    have hk := Gr.after (Gr.of (kq_pfP e211)) hk
    obtain ⟨n217, e217, h⟩ := bd h
    have hk := Gr.trans hk (gr_A (by decide) e217)
    obtain ⟨μ219, e219, h⟩ := bd h
    have hk := Gr.after (Gr.of (kq_pfP e219)) hk
    obtain ⟨n225, e225, h⟩ := bd h
    have hk := Gr.trans hk (gr_A (by decide) e225)
    obtain ⟨μ227, e227, h⟩ := bd h
    have hk := Gr.after (Gr.of (kq_pfP e227)) hk
    obtain ⟨n233, e233, h⟩ := bd h
    have hk := Gr.trans hk (gr_A (by decide) e233)
    obtain ⟨μ235, e235, h⟩ := bd h
    have hk := Gr.after (Gr.of (kq_pfP e235)) hk
    obtain ⟨n241, e241, h⟩ := bd h
    have hk := Gr.trans hk (gr_A (by decide) e241)
    obtain ⟨μ243, e243, h⟩ := bd h
    have hk := Gr.after (Gr.of (kq_pfP e243)) hk
    obtain ⟨n249, e249, h⟩ := bd h
    have hk := Gr.trans hk (gr_A (by decide) e249)
    obtain ⟨μ251, e251, h⟩ := bd h
    have hk := Gr.after (Gr.of (kq_pfP e251)) hk
    obtain ⟨n257, e257, h⟩ := bd h
    have hk := Gr.trans hk (gr_A (by decide) e257)
    obtain ⟨μ259, e259, h⟩ := bd h
    have hk := Gr.after (Gr.of (kq_pfP e259)) hk
    obtain ⟨n265, e265, h⟩ := bd h
    have hk := Gr.trans hk (gr_A (by decide) e265)
    obtain ⟨μ267, e267, h⟩ := bd h
    have hk := Gr.after (Gr.of (kq_pfP e267)) hk
    obtain ⟨n273, e273, h⟩ := bd h
    have hk := Gr.trans hk (gr_A (by decide) e273)
    obtain ⟨μ275, e275, h⟩ := bd h
    have hk := Gr.after (Gr.of (kq_pfP e275)) hk
    obtain ⟨n282, e282, h⟩ := bd h
    have hk := Gr.trans hk (gr_A (by decide) e282)
    obtain ⟨μ284, e284, h⟩ := bd h
    have hk := Gr.after (Gr.of (kq_pfP e284)) hk
    obtain ⟨n291, e291, h⟩ := bd h
    have hk := Gr.trans hk (gr_A (by decide) e291)
    obtain ⟨μ293, e293, h⟩ := bd h
    have hk := Gr.after (Gr.of (kq_pfP e293)) hk
    obtain ⟨n299, e299, h⟩ := bd h
    have hk := Gr.trans hk (gr_A (by decide) e299)
    obtain ⟨μ301, e301, h⟩ := bd h
    have hk := Gr.after (Gr.of (kq_pfP e301)) hk
    obtain ⟨n307, e307, h⟩ := bd h
    have hk := Gr.trans hk (gr_A (by decide) e307)
    obtain ⟨μ309, e309, h⟩ := bd h
    have hk := Gr.after (Gr.of (kq_pfP e309)) hk
    obtain ⟨n315, e315, h⟩ := bd h
    have hk := Gr.trans hk (gr_A (by decide) e315)
    obtain ⟨μ317, e317, h⟩ := bd h
    have hk := Gr.after (Gr.of (kq_pfP e317)) hk
    obtain ⟨n324, e324, h⟩ := bd h
    have hk := Gr.trans hk (gr_A (by decide) e324)
    obtain ⟨μ326, e326, h⟩ := bd h
    have hk := Gr.after (Gr.of (kq_pfP e326)) hk
    obtain ⟨n332, e332, h⟩ := bd h
    have hk := Gr.trans hk (gr_A (by decide) e332)
    obtain ⟨μ334, e334, h⟩ := bd h
    have hk := Gr.after (Gr.of (kq_pfP e334)) hk
    obtain ⟨n339, e339, h⟩ := bd h
    have hk := Gr.trans hk (gr_A (by decide) e339)
    obtain ⟨μ341, e341, h⟩ := bd h
    have hk := Gr.after (Gr.of (kq_pfP e341)) hk
    obtain ⟨n346, e346, h⟩ := bd h
    have hk := Gr.trans hk (gr_A (by decide) e346)
    obtain ⟨μ348, e348, h⟩ := bd h
    have hk := Gr.after (Gr.of (kq_pfP e348)) hk
    obtain ⟨n353, e353, h⟩ := bd h
    have hk := Gr.trans hk (gr_A (by decide) e353)
    obtain ⟨μ355, e355, h⟩ := bd h
    have hk := Gr.after (Gr.of (kq_pfP e355)) hk
    obtain ⟨n360, e360, h⟩ := bd h
    have hk := Gr.trans hk (gr_A (by decide) e360)
    obtain ⟨μ362, e362, h⟩ := bd h
    have hk := Gr.after (Gr.of (kq_pfP e362)) hk
    obtain ⟨x366, e366, h⟩ := bd h
    have hk := Gr.after (Gr.of (t_X11_begin e366)) hk
    obtain ⟨x370, e370, h⟩ := bd h
    have hk := Gr.after (Gr.of (t_X11_settle e370)) hk
    have h := Option.some.inj h
    subst h
    exact hk)
  refine r_newarray (t := 20) (by decide) rfl e157 ka_20 hC dX11_init_157 ?_
  obtain ⟨μ159, e159, h⟩ := Sat_bind h
  refine r_putP fk_X11_70 (Or.inr ⟨rfl, rfl, rfl, fl_X11_70⟩) rfl e159 dX11_init_159 ?_
  have hN := nz_tl (kq_pfP e159) hN
  refine r_aload_n dX11_init_162 0 rfl ?_
  refine r_sipush (v := 14833) dX11_init_163 (by decide) ?_
  obtain ⟨n166, e166, h⟩ := Sat_bind h
  have hN := nz_A (by decide) e166 hN
  have hC := bud_of hN (by
    obtain ⟨x, h, hx⟩ := id h
    have hk : Gr (n166.2) (n166.2) := Gr.rfl
    refine bud_le (?_ : Gr _ ((fun (q : Mm) => q) x)) (hB x hx)
    obtain ⟨μ168, e168, h⟩ := bd h
    have hk := Gr.after (Gr.of (kq_pfP e168)) hk
    obtain ⟨n174, e174, h⟩ := bd h
    have hk := Gr.trans hk (gr_A (by decide) e174)
    obtain ⟨μ176, e176, h⟩ := bd h
    have hk := Gr.after (Gr.of (kq_pfP e176)) hk
    obtain ⟨n182, e182, h⟩ := bd h
    have hk := Gr.trans hk (gr_A (by decide) e182)
    obtain ⟨μ184, e184, h⟩ := bd h
    have hk := Gr.after (Gr.of (kq_pfP e184)) hk
    obtain ⟨n191, e191, h⟩ := bd h
    have hk := Gr.trans hk (gr_A (by decide) e191)
    obtain ⟨μ193, e193, h⟩ := bd h
    have hk := Gr.after (Gr.of (kq_pfP e193)) hk
    obtain ⟨n200, e200, h⟩ := bd h
    have hk := Gr.trans hk (gr_A (by decide) e200)
    obtain ⟨μ202, e202, h⟩ := bd h
    have hk := Gr.after (Gr.of (kq_pfP e202)) hk
    obtain ⟨n209, e209, h⟩ := bd h
    have hk := Gr.trans hk (gr_A (by decide) e209)
    obtain ⟨μ211, e211, h⟩ := bd h
    have hk := Gr.after (Gr.of (kq_pfP e211)) hk
    obtain ⟨n217, e217, h⟩ := bd h
    have hk := Gr.trans hk (gr_A (by decide) e217)
    obtain ⟨μ219, e219, h⟩ := bd h
    have hk := Gr.after (Gr.of (kq_pfP e219)) hk
    obtain ⟨n225, e225, h⟩ := bd h
    have hk := Gr.trans hk (gr_A (by decide) e225)
    obtain ⟨μ227, e227, h⟩ := bd h
    have hk := Gr.after (Gr.of (kq_pfP e227)) hk
    obtain ⟨n233, e233, h⟩ := bd h
    have hk := Gr.trans hk (gr_A (by decide) e233)
    obtain ⟨μ235, e235, h⟩ := bd h
    have hk := Gr.after (Gr.of (kq_pfP e235)) hk
    obtain ⟨n241, e241, h⟩ := bd h
    have hk := Gr.trans hk (gr_A (by decide) e241)
    obtain ⟨μ243, e243, h⟩ := bd h
    have hk := Gr.after (Gr.of (kq_pfP e243)) hk
    obtain ⟨n249, e249, h⟩ := bd h
    have hk := Gr.trans hk (gr_A (by decide) e249)
    obtain ⟨μ251, e251, h⟩ := bd h
    have hk := Gr.after (Gr.of (kq_pfP e251)) hk
    obtain ⟨n257, e257, h⟩ := bd h
    have hk := Gr.trans hk (gr_A (by decide) e257)
    obtain ⟨μ259, e259, h⟩ := bd h
    have hk := Gr.after (Gr.of (kq_pfP e259)) hk
    obtain ⟨n265, e265, h⟩ := bd h
    have hk := Gr.trans hk (gr_A (by decide) e265)
    obtain ⟨μ267, e267, h⟩ := bd h
    have hk := Gr.after (Gr.of (kq_pfP e267)) hk
    obtain ⟨n273, e273, h⟩ := bd h
    have hk := Gr.trans hk (gr_A (by decide) e273)
    obtain ⟨μ275, e275, h⟩ := bd h
    have hk := Gr.after (Gr.of (kq_pfP e275)) hk
    obtain ⟨n282, e282, h⟩ := bd h
    have hk := Gr.trans hk (gr_A (by decide) e282)
    obtain ⟨μ284, e284, h⟩ := bd h
    have hk := Gr.after (Gr.of (kq_pfP e284)) hk
    obtain ⟨n291, e291, h⟩ := bd h
    have hk := Gr.trans hk (gr_A (by decide) e291)
    obtain ⟨μ293, e293, h⟩ := bd h
    have hk := Gr.after (Gr.of (kq_pfP e293)) hk
    obtain ⟨n299, e299, h⟩ := bd h
    have hk := Gr.trans hk (gr_A (by decide) e299)
    obtain ⟨μ301, e301, h⟩ := bd h
    have hk := Gr.after (Gr.of (kq_pfP e301)) hk
    obtain ⟨n307, e307, h⟩ := bd h
    have hk := Gr.trans hk (gr_A (by decide) e307)
    obtain ⟨μ309, e309, h⟩ := bd h
    have hk := Gr.after (Gr.of (kq_pfP e309)) hk
    obtain ⟨n315, e315, h⟩ := bd h
    have hk := Gr.trans hk (gr_A (by decide) e315)
    obtain ⟨μ317, e317, h⟩ := bd h
    have hk := Gr.after (Gr.of (kq_pfP e317)) hk
    obtain ⟨n324, e324, h⟩ := bd h
    have hk := Gr.trans hk (gr_A (by decide) e324)
    obtain ⟨μ326, e326, h⟩ := bd h
    have hk := Gr.after (Gr.of (kq_pfP e326)) hk
    obtain ⟨n332, e332, h⟩ := bd h
    have hk := Gr.trans hk (gr_A (by decide) e332)
    obtain ⟨μ334, e334, h⟩ := bd h
    have hk := Gr.after (Gr.of (kq_pfP e334)) hk
    obtain ⟨n339, e339, h⟩ := bd h
    have hk := Gr.trans hk (gr_A (by decide) e339)
    obtain ⟨μ341, e341, h⟩ := bd h
    have hk := Gr.after (Gr.of (kq_pfP e341)) hk
    obtain ⟨n346, e346, h⟩ := bd h
    have hk := Gr.trans hk (gr_A (by decide) e346)
    obtain ⟨μ348, e348, h⟩ := bd h
    have hk := Gr.after (Gr.of (kq_pfP e348)) hk
    obtain ⟨n353, e353, h⟩ := bd h
    have hk := Gr.trans hk (gr_A (by decide) e353)
    obtain ⟨μ355, e355, h⟩ := bd h
    have hk := Gr.after (Gr.of (kq_pfP e355)) hk
    obtain ⟨n360, e360, h⟩ := bd h
    have hk := Gr.trans hk (gr_A (by decide) e360)
    obtain ⟨μ362, e362, h⟩ := bd h
    have hk := Gr.after (Gr.of (kq_pfP e362)) hk
    obtain ⟨x366, e366, h⟩ := bd h
    have hk := Gr.after (Gr.of (t_X11_begin e366)) hk
    obtain ⟨x370, e370, h⟩ := bd h
    have hk := Gr.after (Gr.of (t_X11_settle e370)) hk
    have h := Option.some.inj h
    subst h
    exact hk)
  refine r_newarray (t := 21) (by decide) rfl e166 ka_21 hC dX11_init_166 ?_
  obtain ⟨μ168, e168, h⟩ := Sat_bind h
  refine r_putP fk_X11_73 (Or.inr ⟨rfl, rfl, rfl, fl_X11_73⟩) rfl e168 dX11_init_168 ?_
  have hN := nz_tl (kq_pfP e168) hN
  refine r_aload_n dX11_init_171 0 rfl ?_
  refine r_bipush (v := 8) dX11_init_172 (by decide) ?_
  obtain ⟨n174, e174, h⟩ := Sat_bind h
  have hN := nz_A (by decide) e174 hN
  have hC := bud_of hN (by
    obtain ⟨x, h, hx⟩ := id h
    have hk : Gr (n174.2) (n174.2) := Gr.rfl
    refine bud_le (?_ : Gr _ ((fun (q : Mm) => q) x)) (hB x hx)
    obtain ⟨μ176, e176, h⟩ := bd h
    have hk := Gr.after (Gr.of (kq_pfP e176)) hk
    obtain ⟨n182, e182, h⟩ := bd h
    have hk := Gr.trans hk (gr_A (by decide) e182)
    obtain ⟨μ184, e184, h⟩ := bd h
    have hk := Gr.after (Gr.of (kq_pfP e184)) hk
    obtain ⟨n191, e191, h⟩ := bd h
    have hk := Gr.trans hk (gr_A (by decide) e191)
    obtain ⟨μ193, e193, h⟩ := bd h
    have hk := Gr.after (Gr.of (kq_pfP e193)) hk
    obtain ⟨n200, e200, h⟩ := bd h
    have hk := Gr.trans hk (gr_A (by decide) e200)
    obtain ⟨μ202, e202, h⟩ := bd h
    have hk := Gr.after (Gr.of (kq_pfP e202)) hk
    obtain ⟨n209, e209, h⟩ := bd h
    have hk := Gr.trans hk (gr_A (by decide) e209)
    obtain ⟨μ211, e211, h⟩ := bd h
    have hk := Gr.after (Gr.of (kq_pfP e211)) hk
    obtain ⟨n217, e217, h⟩ := bd h
    have hk := Gr.trans hk (gr_A (by decide) e217)
    obtain ⟨μ219, e219, h⟩ := bd h
    have hk := Gr.after (Gr.of (kq_pfP e219)) hk
    obtain ⟨n225, e225, h⟩ := bd h
    have hk := Gr.trans hk (gr_A (by decide) e225)
    obtain ⟨μ227, e227, h⟩ := bd h
    have hk := Gr.after (Gr.of (kq_pfP e227)) hk
    obtain ⟨n233, e233, h⟩ := bd h
    have hk := Gr.trans hk (gr_A (by decide) e233)
    obtain ⟨μ235, e235, h⟩ := bd h
    have hk := Gr.after (Gr.of (kq_pfP e235)) hk
    obtain ⟨n241, e241, h⟩ := bd h
    have hk := Gr.trans hk (gr_A (by decide) e241)
    obtain ⟨μ243, e243, h⟩ := bd h
    have hk := Gr.after (Gr.of (kq_pfP e243)) hk
    obtain ⟨n249, e249, h⟩ := bd h
    have hk := Gr.trans hk (gr_A (by decide) e249)
    obtain ⟨μ251, e251, h⟩ := bd h
    have hk := Gr.after (Gr.of (kq_pfP e251)) hk
    obtain ⟨n257, e257, h⟩ := bd h
    have hk := Gr.trans hk (gr_A (by decide) e257)
    obtain ⟨μ259, e259, h⟩ := bd h
    have hk := Gr.after (Gr.of (kq_pfP e259)) hk
    obtain ⟨n265, e265, h⟩ := bd h
    have hk := Gr.trans hk (gr_A (by decide) e265)
    obtain ⟨μ267, e267, h⟩ := bd h
    have hk := Gr.after (Gr.of (kq_pfP e267)) hk
    obtain ⟨n273, e273, h⟩ := bd h
    have hk := Gr.trans hk (gr_A (by decide) e273)
    obtain ⟨μ275, e275, h⟩ := bd h
    have hk := Gr.after (Gr.of (kq_pfP e275)) hk
    obtain ⟨n282, e282, h⟩ := bd h
    have hk := Gr.trans hk (gr_A (by decide) e282)
    obtain ⟨μ284, e284, h⟩ := bd h
    have hk := Gr.after (Gr.of (kq_pfP e284)) hk
    obtain ⟨n291, e291, h⟩ := bd h
    have hk := Gr.trans hk (gr_A (by decide) e291)
    obtain ⟨μ293, e293, h⟩ := bd h
    have hk := Gr.after (Gr.of (kq_pfP e293)) hk
    obtain ⟨n299, e299, h⟩ := bd h
    have hk := Gr.trans hk (gr_A (by decide) e299)
    obtain ⟨μ301, e301, h⟩ := bd h
    have hk := Gr.after (Gr.of (kq_pfP e301)) hk
    obtain ⟨n307, e307, h⟩ := bd h
    have hk := Gr.trans hk (gr_A (by decide) e307)
    obtain ⟨μ309, e309, h⟩ := bd h
    have hk := Gr.after (Gr.of (kq_pfP e309)) hk
    obtain ⟨n315, e315, h⟩ := bd h
    have hk := Gr.trans hk (gr_A (by decide) e315)
    obtain ⟨μ317, e317, h⟩ := bd h
    have hk := Gr.after (Gr.of (kq_pfP e317)) hk
    obtain ⟨n324, e324, h⟩ := bd h
    have hk := Gr.trans hk (gr_A (by decide) e324)
    obtain ⟨μ326, e326, h⟩ := bd h
    have hk := Gr.after (Gr.of (kq_pfP e326)) hk
    obtain ⟨n332, e332, h⟩ := bd h
    have hk := Gr.trans hk (gr_A (by decide) e332)
    obtain ⟨μ334, e334, h⟩ := bd h
    have hk := Gr.after (Gr.of (kq_pfP e334)) hk
    obtain ⟨n339, e339, h⟩ := bd h
    have hk := Gr.trans hk (gr_A (by decide) e339)
    obtain ⟨μ341, e341, h⟩ := bd h
    have hk := Gr.after (Gr.of (kq_pfP e341)) hk
    obtain ⟨n346, e346, h⟩ := bd h
    have hk := Gr.trans hk (gr_A (by decide) e346)
    obtain ⟨μ348, e348, h⟩ := bd h
    have hk := Gr.after (Gr.of (kq_pfP e348)) hk
    obtain ⟨n353, e353, h⟩ := bd h
    have hk := Gr.trans hk (gr_A (by decide) e353)
    obtain ⟨μ355, e355, h⟩ := bd h
    have hk := Gr.after (Gr.of (kq_pfP e355)) hk
    obtain ⟨n360, e360, h⟩ := bd h
    have hk := Gr.trans hk (gr_A (by decide) e360)
    obtain ⟨μ362, e362, h⟩ := bd h
    have hk := Gr.after (Gr.of (kq_pfP e362)) hk
    obtain ⟨x366, e366, h⟩ := bd h
    have hk := Gr.after (Gr.of (t_X11_begin e366)) hk
    obtain ⟨x370, e370, h⟩ := bd h
    have hk := Gr.after (Gr.of (t_X11_settle e370)) hk
    have h := Option.some.inj h
    subst h
    exact hk)
  refine r_newarray (t := 20) (by decide) rfl e174 ka_20 hC dX11_init_174 ?_
  obtain ⟨μ176, e176, h⟩ := Sat_bind h
  refine r_putP fk_X11_76 (Or.inr ⟨rfl, rfl, rfl, fl_X11_76⟩) rfl e176 dX11_init_176 ?_
  have hN := nz_tl (kq_pfP e176) hN
  refine r_aload_n dX11_init_179 0 rfl ?_
  refine r_bipush (v := 8) dX11_init_180 (by decide) ?_
  obtain ⟨n182, e182, h⟩ := Sat_bind h
  have hN := nz_A (by decide) e182 hN
  have hC := bud_of hN (by
    obtain ⟨x, h, hx⟩ := id h
    have hk : Gr (n182.2) (n182.2) := Gr.rfl
    refine bud_le (?_ : Gr _ ((fun (q : Mm) => q) x)) (hB x hx)
    obtain ⟨μ184, e184, h⟩ := bd h
    have hk := Gr.after (Gr.of (kq_pfP e184)) hk
    obtain ⟨n191, e191, h⟩ := bd h
    have hk := Gr.trans hk (gr_A (by decide) e191)
    obtain ⟨μ193, e193, h⟩ := bd h
    have hk := Gr.after (Gr.of (kq_pfP e193)) hk
    obtain ⟨n200, e200, h⟩ := bd h
    have hk := Gr.trans hk (gr_A (by decide) e200)
    obtain ⟨μ202, e202, h⟩ := bd h
    have hk := Gr.after (Gr.of (kq_pfP e202)) hk
    obtain ⟨n209, e209, h⟩ := bd h
    have hk := Gr.trans hk (gr_A (by decide) e209)
    obtain ⟨μ211, e211, h⟩ := bd h
    have hk := Gr.after (Gr.of (kq_pfP e211)) hk
    obtain ⟨n217, e217, h⟩ := bd h
    have hk := Gr.trans hk (gr_A (by decide) e217)
    obtain ⟨μ219, e219, h⟩ := bd h
    have hk := Gr.after (Gr.of (kq_pfP e219)) hk
    obtain ⟨n225, e225, h⟩ := bd h
    have hk := Gr.trans hk (gr_A (by decide) e225)
    obtain ⟨μ227, e227, h⟩ := bd h
    have hk := Gr.after (Gr.of (kq_pfP e227)) hk
    obtain ⟨n233, e233, h⟩ := bd h
    have hk := Gr.trans hk (gr_A (by decide) e233)
    obtain ⟨μ235, e235, h⟩ := bd h
    have hk := Gr.after (Gr.of (kq_pfP e235)) hk
    obtain ⟨n241, e241, h⟩ := bd h
    have hk := Gr.trans hk (gr_A (by decide) e241)
    obtain ⟨μ243, e243, h⟩ := bd h
    have hk := Gr.after (Gr.of (kq_pfP e243)) hk
    obtain ⟨n249, e249, h⟩ := bd h
    have hk := Gr.trans hk (gr_A (by decide) e249)
    obtain ⟨μ251, e251, h⟩ := bd h
    have hk := Gr.after (Gr.of (kq_pfP e251)) hk
    obtain ⟨n257, e257, h⟩ := bd h
    have hk := Gr.trans hk (gr_A (by decide) e257)
    obtain ⟨μ259, e259, h⟩ := bd h
    have hk := Gr.after (Gr.of (kq_pfP e259)) hk
    obtain ⟨n265, e265, h⟩ := bd h
    have hk := Gr.trans hk (gr_A (by decide) e265)
    obtain ⟨μ267, e267, h⟩ := bd h
    have hk := Gr.after (Gr.of (kq_pfP e267)) hk
    obtain ⟨n273, e273, h⟩ := bd h
    have hk := Gr.trans hk (gr_A (by decide) e273)
    obtain ⟨μ275, e275, h⟩ := bd h
    have hk := Gr.after (Gr.of (kq_pfP e275)) hk
    obtain ⟨n282, e282, h⟩ := bd h
    have hk := Gr.trans hk (gr_A (by decide) e282)
    obtain ⟨μ284, e284, h⟩ := bd h
    have hk := Gr.after (Gr.of (kq_pfP e284)) hk
    obtain ⟨n291, e291, h⟩ := bd h
    have hk := Gr.trans hk (gr_A (by decide) e291)
    obtain ⟨μ293, e293, h⟩ := bd h
    have hk := Gr.after (Gr.of (kq_pfP e293)) hk
    obtain ⟨n299, e299, h⟩ := bd h
    have hk := Gr.trans hk (gr_A (by decide) e299)
    obtain ⟨μ301, e301, h⟩ := bd h
    have hk := Gr.after (Gr.of (kq_pfP e301)) hk
    obtain ⟨n307, e307, h⟩ := bd h
    have hk := Gr.trans hk (gr_A (by decide) e307)
    obtain ⟨μ309, e309, h⟩ := bd h
    have hk := Gr.after (Gr.of (kq_pfP e309)) hk
    obtain ⟨n315, e315, h⟩ := bd h
    have hk := Gr.trans hk (gr_A (by decide) e315)
    obtain ⟨μ317, e317, h⟩ := bd h
    have hk := Gr.after (Gr.of (kq_pfP e317)) hk
    obtain ⟨n324, e324, h⟩ := bd h
    have hk := Gr.trans hk (gr_A (by decide) e324)
    obtain ⟨μ326, e326, h⟩ := bd h
    have hk := Gr.after (Gr.of (kq_pfP e326)) hk
    obtain ⟨n332, e332, h⟩ := bd h
    have hk := Gr.trans hk (gr_A (by decide) e332)
    obtain ⟨μ334, e334, h⟩ := bd h
    have hk := Gr.after (Gr.of (kq_pfP e334)) hk
    obtain ⟨n339, e339, h⟩ := bd h
    have hk := Gr.trans hk (gr_A (by decide) e339)
    obtain ⟨μ341, e341, h⟩ := bd h
    have hk := Gr.after (Gr.of (kq_pfP e341)) hk
    obtain ⟨n346, e346, h⟩ := bd h
    have hk := Gr.trans hk (gr_A (by decide) e346)
    obtain ⟨μ348, e348, h⟩ := bd h
    have hk := Gr.after (Gr.of (kq_pfP e348)) hk
    obtain ⟨n353, e353, h⟩ := bd h
    have hk := Gr.trans hk (gr_A (by decide) e353)
    obtain ⟨μ355, e355, h⟩ := bd h
    have hk := Gr.after (Gr.of (kq_pfP e355)) hk
    obtain ⟨n360, e360, h⟩ := bd h
    have hk := Gr.trans hk (gr_A (by decide) e360)
    obtain ⟨μ362, e362, h⟩ := bd h
    have hk := Gr.after (Gr.of (kq_pfP e362)) hk
    obtain ⟨x366, e366, h⟩ := bd h
    have hk := Gr.after (Gr.of (t_X11_begin e366)) hk
    obtain ⟨x370, e370, h⟩ := bd h
    have hk := Gr.after (Gr.of (t_X11_settle e370)) hk
    have h := Option.some.inj h
    subst h
    exact hk)
  refine r_newarray (t := 20) (by decide) rfl e182 ka_20 hC dX11_init_182 ?_
  obtain ⟨μ184, e184, h⟩ := Sat_bind h
  refine r_putP fk_X11_79 (Or.inr ⟨rfl, rfl, rfl, fl_X11_79⟩) rfl e184 dX11_init_184 ?_
  have hN := nz_tl (kq_pfP e184) hN
  refine r_aload_n dX11_init_187 0 rfl ?_
  refine r_sipush (v := 150) dX11_init_188 (by decide) ?_
  obtain ⟨n191, e191, h⟩ := Sat_bind h
  have hN := nz_A (by decide) e191 hN
  have hC := bud_of hN (by
    obtain ⟨x, h, hx⟩ := id h
    have hk : Gr (n191.2) (n191.2) := Gr.rfl
    refine bud_le (?_ : Gr _ ((fun (q : Mm) => q) x)) (hB x hx)
    obtain ⟨μ193, e193, h⟩ := bd h
    have hk := Gr.after (Gr.of (kq_pfP e193)) hk
    obtain ⟨n200, e200, h⟩ := bd h
    have hk := Gr.trans hk (gr_A (by decide) e200)
    obtain ⟨μ202, e202, h⟩ := bd h
    have hk := Gr.after (Gr.of (kq_pfP e202)) hk
    obtain ⟨n209, e209, h⟩ := bd h
    have hk := Gr.trans hk (gr_A (by decide) e209)
    obtain ⟨μ211, e211, h⟩ := bd h
    have hk := Gr.after (Gr.of (kq_pfP e211)) hk
    obtain ⟨n217, e217, h⟩ := bd h
    have hk := Gr.trans hk (gr_A (by decide) e217)
    obtain ⟨μ219, e219, h⟩ := bd h
    have hk := Gr.after (Gr.of (kq_pfP e219)) hk
    obtain ⟨n225, e225, h⟩ := bd h
    have hk := Gr.trans hk (gr_A (by decide) e225)
    obtain ⟨μ227, e227, h⟩ := bd h
    have hk := Gr.after (Gr.of (kq_pfP e227)) hk
    obtain ⟨n233, e233, h⟩ := bd h
    have hk := Gr.trans hk (gr_A (by decide) e233)
    obtain ⟨μ235, e235, h⟩ := bd h
    have hk := Gr.after (Gr.of (kq_pfP e235)) hk
    obtain ⟨n241, e241, h⟩ := bd h
    have hk := Gr.trans hk (gr_A (by decide) e241)
    obtain ⟨μ243, e243, h⟩ := bd h
    have hk := Gr.after (Gr.of (kq_pfP e243)) hk
    obtain ⟨n249, e249, h⟩ := bd h
    have hk := Gr.trans hk (gr_A (by decide) e249)
    obtain ⟨μ251, e251, h⟩ := bd h
    have hk := Gr.after (Gr.of (kq_pfP e251)) hk
    obtain ⟨n257, e257, h⟩ := bd h
    have hk := Gr.trans hk (gr_A (by decide) e257)
    obtain ⟨μ259, e259, h⟩ := bd h
    have hk := Gr.after (Gr.of (kq_pfP e259)) hk
    obtain ⟨n265, e265, h⟩ := bd h
    have hk := Gr.trans hk (gr_A (by decide) e265)
    obtain ⟨μ267, e267, h⟩ := bd h
    have hk := Gr.after (Gr.of (kq_pfP e267)) hk
    obtain ⟨n273, e273, h⟩ := bd h
    have hk := Gr.trans hk (gr_A (by decide) e273)
    obtain ⟨μ275, e275, h⟩ := bd h
    have hk := Gr.after (Gr.of (kq_pfP e275)) hk
    obtain ⟨n282, e282, h⟩ := bd h
    have hk := Gr.trans hk (gr_A (by decide) e282)
    obtain ⟨μ284, e284, h⟩ := bd h
    have hk := Gr.after (Gr.of (kq_pfP e284)) hk
    obtain ⟨n291, e291, h⟩ := bd h
    have hk := Gr.trans hk (gr_A (by decide) e291)
    obtain ⟨μ293, e293, h⟩ := bd h
    have hk := Gr.after (Gr.of (kq_pfP e293)) hk
    obtain ⟨n299, e299, h⟩ := bd h
    have hk := Gr.trans hk (gr_A (by decide) e299)
    obtain ⟨μ301, e301, h⟩ := bd h
    have hk := Gr.after (Gr.of (kq_pfP e301)) hk
    obtain ⟨n307, e307, h⟩ := bd h
    have hk := Gr.trans hk (gr_A (by decide) e307)
    obtain ⟨μ309, e309, h⟩ := bd h
    have hk := Gr.after (Gr.of (kq_pfP e309)) hk
    obtain ⟨n315, e315, h⟩ := bd h
    have hk := Gr.trans hk (gr_A (by decide) e315)
    obtain ⟨μ317, e317, h⟩ := bd h
    have hk := Gr.after (Gr.of (kq_pfP e317)) hk
    obtain ⟨n324, e324, h⟩ := bd h
    have hk := Gr.trans hk (gr_A (by decide) e324)
    obtain ⟨μ326, e326, h⟩ := bd h
    have hk := Gr.after (Gr.of (kq_pfP e326)) hk
    obtain ⟨n332, e332, h⟩ := bd h
    have hk := Gr.trans hk (gr_A (by decide) e332)
    obtain ⟨μ334, e334, h⟩ := bd h
    have hk := Gr.after (Gr.of (kq_pfP e334)) hk
    obtain ⟨n339, e339, h⟩ := bd h
    have hk := Gr.trans hk (gr_A (by decide) e339)
    obtain ⟨μ341, e341, h⟩ := bd h
    have hk := Gr.after (Gr.of (kq_pfP e341)) hk
    obtain ⟨n346, e346, h⟩ := bd h
    have hk := Gr.trans hk (gr_A (by decide) e346)
    obtain ⟨μ348, e348, h⟩ := bd h
    have hk := Gr.after (Gr.of (kq_pfP e348)) hk
    obtain ⟨n353, e353, h⟩ := bd h
    have hk := Gr.trans hk (gr_A (by decide) e353)
    obtain ⟨μ355, e355, h⟩ := bd h
    have hk := Gr.after (Gr.of (kq_pfP e355)) hk
    obtain ⟨n360, e360, h⟩ := bd h
    have hk := Gr.trans hk (gr_A (by decide) e360)
    obtain ⟨μ362, e362, h⟩ := bd h
    have hk := Gr.after (Gr.of (kq_pfP e362)) hk
    obtain ⟨x366, e366, h⟩ := bd h
    have hk := Gr.after (Gr.of (t_X11_begin e366)) hk
    obtain ⟨x370, e370, h⟩ := bd h
    have hk := Gr.after (Gr.of (t_X11_settle e370)) hk
    have h := Option.some.inj h
    subst h
    exact hk)
  refine r_newarray (t := 20) (by decide) rfl e191 ka_20 hC dX11_init_191 ?_
  obtain ⟨μ193, e193, h⟩ := Sat_bind h
  refine r_putP fk_X11_82 (Or.inr ⟨rfl, rfl, rfl, fl_X11_82⟩) rfl e193 dX11_init_193 ?_
  have hN := nz_tl (kq_pfP e193) hN
  refine r_aload_n dX11_init_196 0 rfl ?_
  refine r_sipush (v := 150) dX11_init_197 (by decide) ?_
  obtain ⟨n200, e200, h⟩ := Sat_bind h
  have hN := nz_A (by decide) e200 hN
  have hC := bud_of hN (by
    obtain ⟨x, h, hx⟩ := id h
    have hk : Gr (n200.2) (n200.2) := Gr.rfl
    refine bud_le (?_ : Gr _ ((fun (q : Mm) => q) x)) (hB x hx)
    obtain ⟨μ202, e202, h⟩ := bd h
    have hk := Gr.after (Gr.of (kq_pfP e202)) hk
    obtain ⟨n209, e209, h⟩ := bd h
    have hk := Gr.trans hk (gr_A (by decide) e209)
    obtain ⟨μ211, e211, h⟩ := bd h
    have hk := Gr.after (Gr.of (kq_pfP e211)) hk
    obtain ⟨n217, e217, h⟩ := bd h
    have hk := Gr.trans hk (gr_A (by decide) e217)
    obtain ⟨μ219, e219, h⟩ := bd h
    have hk := Gr.after (Gr.of (kq_pfP e219)) hk
    obtain ⟨n225, e225, h⟩ := bd h
    have hk := Gr.trans hk (gr_A (by decide) e225)
    obtain ⟨μ227, e227, h⟩ := bd h
    have hk := Gr.after (Gr.of (kq_pfP e227)) hk
    obtain ⟨n233, e233, h⟩ := bd h
    have hk := Gr.trans hk (gr_A (by decide) e233)
    obtain ⟨μ235, e235, h⟩ := bd h
    have hk := Gr.after (Gr.of (kq_pfP e235)) hk
    obtain ⟨n241, e241, h⟩ := bd h
    have hk := Gr.trans hk (gr_A (by decide) e241)
    obtain ⟨μ243, e243, h⟩ := bd h
    have hk := Gr.after (Gr.of (kq_pfP e243)) hk
    obtain ⟨n249, e249, h⟩ := bd h
    have hk := Gr.trans hk (gr_A (by decide) e249)
    obtain ⟨μ251, e251, h⟩ := bd h
    have hk := Gr.after (Gr.of (kq_pfP e251)) hk
    obtain ⟨n257, e257, h⟩ := bd h
    have hk := Gr.trans hk (gr_A (by decide) e257)
    obtain ⟨μ259, e259, h⟩ := bd h
    have hk := Gr.after (Gr.of (kq_pfP e259)) hk
    obtain ⟨n265, e265, h⟩ := bd h
    have hk := Gr.trans hk (gr_A (by decide) e265)
    obtain ⟨μ267, e267, h⟩ := bd h
    have hk := Gr.after (Gr.of (kq_pfP e267)) hk
    obtain ⟨n273, e273, h⟩ := bd h
    have hk := Gr.trans hk (gr_A (by decide) e273)
    obtain ⟨μ275, e275, h⟩ := bd h
    have hk := Gr.after (Gr.of (kq_pfP e275)) hk
    obtain ⟨n282, e282, h⟩ := bd h
    have hk := Gr.trans hk (gr_A (by decide) e282)
    obtain ⟨μ284, e284, h⟩ := bd h
    have hk := Gr.after (Gr.of (kq_pfP e284)) hk
    obtain ⟨n291, e291, h⟩ := bd h
    have hk := Gr.trans hk (gr_A (by decide) e291)
    obtain ⟨μ293, e293, h⟩ := bd h
    have hk := Gr.after (Gr.of (kq_pfP e293)) hk
    obtain ⟨n299, e299, h⟩ := bd h
    have hk := Gr.trans hk (gr_A (by decide) e299)
    obtain ⟨μ301, e301, h⟩ := bd h
    have hk := Gr.after (Gr.of (kq_pfP e301)) hk
    obtain ⟨n307, e307, h⟩ := bd h
    have hk := Gr.trans hk (gr_A (by decide) e307)
    obtain ⟨μ309, e309, h⟩ := bd h
    have hk := Gr.after (Gr.of (kq_pfP e309)) hk
    obtain ⟨n315, e315, h⟩ := bd h
    have hk := Gr.trans hk (gr_A (by decide) e315)
    obtain ⟨μ317, e317, h⟩ := bd h
    have hk := Gr.after (Gr.of (kq_pfP e317)) hk
    obtain ⟨n324, e324, h⟩ := bd h
    have hk := Gr.trans hk (gr_A (by decide) e324)
    obtain ⟨μ326, e326, h⟩ := bd h
    have hk := Gr.after (Gr.of (kq_pfP e326)) hk
    obtain ⟨n332, e332, h⟩ := bd h
    have hk := Gr.trans hk (gr_A (by decide) e332)
    obtain ⟨μ334, e334, h⟩ := bd h
    have hk := Gr.after (Gr.of (kq_pfP e334)) hk
    obtain ⟨n339, e339, h⟩ := bd h
    have hk := Gr.trans hk (gr_A (by decide) e339)
    obtain ⟨μ341, e341, h⟩ := bd h
    have hk := Gr.after (Gr.of (kq_pfP e341)) hk
    obtain ⟨n346, e346, h⟩ := bd h
    have hk := Gr.trans hk (gr_A (by decide) e346)
    obtain ⟨μ348, e348, h⟩ := bd h
    have hk := Gr.after (Gr.of (kq_pfP e348)) hk
    obtain ⟨n353, e353, h⟩ := bd h
    have hk := Gr.trans hk (gr_A (by decide) e353)
    obtain ⟨μ355, e355, h⟩ := bd h
    have hk := Gr.after (Gr.of (kq_pfP e355)) hk
    obtain ⟨n360, e360, h⟩ := bd h
    have hk := Gr.trans hk (gr_A (by decide) e360)
    obtain ⟨μ362, e362, h⟩ := bd h
    have hk := Gr.after (Gr.of (kq_pfP e362)) hk
    obtain ⟨x366, e366, h⟩ := bd h
    have hk := Gr.after (Gr.of (t_X11_begin e366)) hk
    obtain ⟨x370, e370, h⟩ := bd h
    have hk := Gr.after (Gr.of (t_X11_settle e370)) hk
    have h := Option.some.inj h
    subst h
    exact hk)
  refine r_newarray (t := 20) (by decide) rfl e200 ka_20 hC dX11_init_200 ?_
  obtain ⟨μ202, e202, h⟩ := Sat_bind h
  refine r_putP fk_X11_85 (Or.inr ⟨rfl, rfl, rfl, fl_X11_85⟩) rfl e202 dX11_init_202 ?_
  have hN := nz_tl (kq_pfP e202) hN
  refine r_aload_n dX11_init_205 0 rfl ?_
  refine r_sipush (v := 150) dX11_init_206 (by decide) ?_
  obtain ⟨n209, e209, h⟩ := Sat_bind h
  have hN := nz_A (by decide) e209 hN
  have hC := bud_of hN (by
    obtain ⟨x, h, hx⟩ := id h
    have hk : Gr (n209.2) (n209.2) := Gr.rfl
    refine bud_le (?_ : Gr _ ((fun (q : Mm) => q) x)) (hB x hx)
    obtain ⟨μ211, e211, h⟩ := bd h
    have hk := Gr.after (Gr.of (kq_pfP e211)) hk
    obtain ⟨n217, e217, h⟩ := bd h
    have hk := Gr.trans hk (gr_A (by decide) e217)
    obtain ⟨μ219, e219, h⟩ := bd h
    have hk := Gr.after (Gr.of (kq_pfP e219)) hk
    obtain ⟨n225, e225, h⟩ := bd h
    have hk := Gr.trans hk (gr_A (by decide) e225)
    obtain ⟨μ227, e227, h⟩ := bd h
    have hk := Gr.after (Gr.of (kq_pfP e227)) hk
    obtain ⟨n233, e233, h⟩ := bd h
    have hk := Gr.trans hk (gr_A (by decide) e233)
    obtain ⟨μ235, e235, h⟩ := bd h
    have hk := Gr.after (Gr.of (kq_pfP e235)) hk
    obtain ⟨n241, e241, h⟩ := bd h
    have hk := Gr.trans hk (gr_A (by decide) e241)
    obtain ⟨μ243, e243, h⟩ := bd h
    have hk := Gr.after (Gr.of (kq_pfP e243)) hk
    obtain ⟨n249, e249, h⟩ := bd h
    have hk := Gr.trans hk (gr_A (by decide) e249)
    obtain ⟨μ251, e251, h⟩ := bd h
    have hk := Gr.after (Gr.of (kq_pfP e251)) hk
    obtain ⟨n257, e257, h⟩ := bd h
    have hk := Gr.trans hk (gr_A (by decide) e257)
    obtain ⟨μ259, e259, h⟩ := bd h
    have hk := Gr.after (Gr.of (kq_pfP e259)) hk
    obtain ⟨n265, e265, h⟩ := bd h
    have hk := Gr.trans hk (gr_A (by decide) e265)
    obtain ⟨μ267, e267, h⟩ := bd h
    have hk := Gr.after (Gr.of (kq_pfP e267)) hk
    obtain ⟨n273, e273, h⟩ := bd h
    have hk := Gr.trans hk (gr_A (by decide) e273)
    obtain ⟨μ275, e275, h⟩ := bd h
    have hk := Gr.after (Gr.of (kq_pfP e275)) hk
    obtain ⟨n282, e282, h⟩ := bd h
    have hk := Gr.trans hk (gr_A (by decide) e282)
    obtain ⟨μ284, e284, h⟩ := bd h
    have hk := Gr.after (Gr.of (kq_pfP e284)) hk
    obtain ⟨n291, e291, h⟩ := bd h
    have hk := Gr.trans hk (gr_A (by decide) e291)
    obtain ⟨μ293, e293, h⟩ := bd h
    have hk := Gr.after (Gr.of (kq_pfP e293)) hk
    obtain ⟨n299, e299, h⟩ := bd h
    have hk := Gr.trans hk (gr_A (by decide) e299)
    obtain ⟨μ301, e301, h⟩ := bd h
    have hk := Gr.after (Gr.of (kq_pfP e301)) hk
    obtain ⟨n307, e307, h⟩ := bd h
    have hk := Gr.trans hk (gr_A (by decide) e307)
    obtain ⟨μ309, e309, h⟩ := bd h
    have hk := Gr.after (Gr.of (kq_pfP e309)) hk
    obtain ⟨n315, e315, h⟩ := bd h
    have hk := Gr.trans hk (gr_A (by decide) e315)
    obtain ⟨μ317, e317, h⟩ := bd h
    have hk := Gr.after (Gr.of (kq_pfP e317)) hk
    obtain ⟨n324, e324, h⟩ := bd h
    have hk := Gr.trans hk (gr_A (by decide) e324)
    obtain ⟨μ326, e326, h⟩ := bd h
    have hk := Gr.after (Gr.of (kq_pfP e326)) hk
    obtain ⟨n332, e332, h⟩ := bd h
    have hk := Gr.trans hk (gr_A (by decide) e332)
    obtain ⟨μ334, e334, h⟩ := bd h
    have hk := Gr.after (Gr.of (kq_pfP e334)) hk
    obtain ⟨n339, e339, h⟩ := bd h
    have hk := Gr.trans hk (gr_A (by decide) e339)
    obtain ⟨μ341, e341, h⟩ := bd h
    have hk := Gr.after (Gr.of (kq_pfP e341)) hk
    obtain ⟨n346, e346, h⟩ := bd h
    have hk := Gr.trans hk (gr_A (by decide) e346)
    obtain ⟨μ348, e348, h⟩ := bd h
    have hk := Gr.after (Gr.of (kq_pfP e348)) hk
    obtain ⟨n353, e353, h⟩ := bd h
    have hk := Gr.trans hk (gr_A (by decide) e353)
    obtain ⟨μ355, e355, h⟩ := bd h
    have hk := Gr.after (Gr.of (kq_pfP e355)) hk
    obtain ⟨n360, e360, h⟩ := bd h
    have hk := Gr.trans hk (gr_A (by decide) e360)
    obtain ⟨μ362, e362, h⟩ := bd h
    have hk := Gr.after (Gr.of (kq_pfP e362)) hk
    obtain ⟨x366, e366, h⟩ := bd h
    have hk := Gr.after (Gr.of (t_X11_begin e366)) hk
    obtain ⟨x370, e370, h⟩ := bd h
    have hk := Gr.after (Gr.of (t_X11_settle e370)) hk
    have h := Option.some.inj h
    subst h
    exact hk)
  refine r_newarray (t := 20) (by decide) rfl e209 ka_20 hC dX11_init_209 ?_
  obtain ⟨μ211, e211, h⟩ := Sat_bind h
  refine r_putP fk_X11_88 (Or.inr ⟨rfl, rfl, rfl, fl_X11_88⟩) rfl e211 dX11_init_211 ?_
  have hN := nz_tl (kq_pfP e211) hN
  refine r_aload_n dX11_init_214 0 rfl ?_
  refine r_bipush (v := 16) dX11_init_215 (by decide) ?_
  obtain ⟨n217, e217, h⟩ := Sat_bind h
  have hN := nz_A (by decide) e217 hN
  have hC := bud_of hN (by
    obtain ⟨x, h, hx⟩ := id h
    have hk : Gr (n217.2) (n217.2) := Gr.rfl
    refine bud_le (?_ : Gr _ ((fun (q : Mm) => q) x)) (hB x hx)
    obtain ⟨μ219, e219, h⟩ := bd h
    have hk := Gr.after (Gr.of (kq_pfP e219)) hk
    obtain ⟨n225, e225, h⟩ := bd h
    have hk := Gr.trans hk (gr_A (by decide) e225)
    obtain ⟨μ227, e227, h⟩ := bd h
    have hk := Gr.after (Gr.of (kq_pfP e227)) hk
    obtain ⟨n233, e233, h⟩ := bd h
    have hk := Gr.trans hk (gr_A (by decide) e233)
    obtain ⟨μ235, e235, h⟩ := bd h
    have hk := Gr.after (Gr.of (kq_pfP e235)) hk
    obtain ⟨n241, e241, h⟩ := bd h
    have hk := Gr.trans hk (gr_A (by decide) e241)
    obtain ⟨μ243, e243, h⟩ := bd h
    have hk := Gr.after (Gr.of (kq_pfP e243)) hk
    obtain ⟨n249, e249, h⟩ := bd h
    have hk := Gr.trans hk (gr_A (by decide) e249)
    obtain ⟨μ251, e251, h⟩ := bd h
    have hk := Gr.after (Gr.of (kq_pfP e251)) hk
    obtain ⟨n257, e257, h⟩ := bd h
    have hk := Gr.trans hk (gr_A (by decide) e257)
    obtain ⟨μ259, e259, h⟩ := bd h
    have hk := Gr.after (Gr.of (kq_pfP e259)) hk
    obtain ⟨n265, e265, h⟩ := bd h
    have hk := Gr.trans hk (gr_A (by decide) e265)
    obtain ⟨μ267, e267, h⟩ := bd h
    have hk := Gr.after (Gr.of (kq_pfP e267)) hk
    obtain ⟨n273, e273, h⟩ := bd h
    have hk := Gr.trans hk (gr_A (by decide) e273)
    obtain ⟨μ275, e275, h⟩ := bd h
    have hk := Gr.after (Gr.of (kq_pfP e275)) hk
    obtain ⟨n282, e282, h⟩ := bd h
    have hk := Gr.trans hk (gr_A (by decide) e282)
    obtain ⟨μ284, e284, h⟩ := bd h
    have hk := Gr.after (Gr.of (kq_pfP e284)) hk
    obtain ⟨n291, e291, h⟩ := bd h
    have hk := Gr.trans hk (gr_A (by decide) e291)
    obtain ⟨μ293, e293, h⟩ := bd h
    have hk := Gr.after (Gr.of (kq_pfP e293)) hk
    obtain ⟨n299, e299, h⟩ := bd h
    have hk := Gr.trans hk (gr_A (by decide) e299)
    obtain ⟨μ301, e301, h⟩ := bd h
    have hk := Gr.after (Gr.of (kq_pfP e301)) hk
    obtain ⟨n307, e307, h⟩ := bd h
    have hk := Gr.trans hk (gr_A (by decide) e307)
    obtain ⟨μ309, e309, h⟩ := bd h
    have hk := Gr.after (Gr.of (kq_pfP e309)) hk
    obtain ⟨n315, e315, h⟩ := bd h
    have hk := Gr.trans hk (gr_A (by decide) e315)
    obtain ⟨μ317, e317, h⟩ := bd h
    have hk := Gr.after (Gr.of (kq_pfP e317)) hk
    obtain ⟨n324, e324, h⟩ := bd h
    have hk := Gr.trans hk (gr_A (by decide) e324)
    obtain ⟨μ326, e326, h⟩ := bd h
    have hk := Gr.after (Gr.of (kq_pfP e326)) hk
    obtain ⟨n332, e332, h⟩ := bd h
    have hk := Gr.trans hk (gr_A (by decide) e332)
    obtain ⟨μ334, e334, h⟩ := bd h
    have hk := Gr.after (Gr.of (kq_pfP e334)) hk
    obtain ⟨n339, e339, h⟩ := bd h
    have hk := Gr.trans hk (gr_A (by decide) e339)
    obtain ⟨μ341, e341, h⟩ := bd h
    have hk := Gr.after (Gr.of (kq_pfP e341)) hk
    obtain ⟨n346, e346, h⟩ := bd h
    have hk := Gr.trans hk (gr_A (by decide) e346)
    obtain ⟨μ348, e348, h⟩ := bd h
    have hk := Gr.after (Gr.of (kq_pfP e348)) hk
    obtain ⟨n353, e353, h⟩ := bd h
    have hk := Gr.trans hk (gr_A (by decide) e353)
    obtain ⟨μ355, e355, h⟩ := bd h
    have hk := Gr.after (Gr.of (kq_pfP e355)) hk
    obtain ⟨n360, e360, h⟩ := bd h
    have hk := Gr.trans hk (gr_A (by decide) e360)
    obtain ⟨μ362, e362, h⟩ := bd h
    have hk := Gr.after (Gr.of (kq_pfP e362)) hk
    obtain ⟨x366, e366, h⟩ := bd h
    have hk := Gr.after (Gr.of (t_X11_begin e366)) hk
    obtain ⟨x370, e370, h⟩ := bd h
    have hk := Gr.after (Gr.of (t_X11_settle e370)) hk
    have h := Option.some.inj h
    subst h
    exact hk)
  refine r_newarray (t := 20) (by decide) rfl e217 ka_20 hC dX11_init_217 ?_
  obtain ⟨μ219, e219, h⟩ := Sat_bind h
  refine r_putP fk_X11_91 (Or.inr ⟨rfl, rfl, rfl, fl_X11_91⟩) rfl e219 dX11_init_219 ?_
  have hN := nz_tl (kq_pfP e219) hN
  refine r_aload_n dX11_init_222 0 rfl ?_
  refine r_bipush (v := 16) dX11_init_223 (by decide) ?_
  obtain ⟨n225, e225, h⟩ := Sat_bind h
  have hN := nz_A (by decide) e225 hN
  have hC := bud_of hN (by
    obtain ⟨x, h, hx⟩ := id h
    have hk : Gr (n225.2) (n225.2) := Gr.rfl
    refine bud_le (?_ : Gr _ ((fun (q : Mm) => q) x)) (hB x hx)
    obtain ⟨μ227, e227, h⟩ := bd h
    have hk := Gr.after (Gr.of (kq_pfP e227)) hk
    obtain ⟨n233, e233, h⟩ := bd h
    have hk := Gr.trans hk (gr_A (by decide) e233)
    obtain ⟨μ235, e235, h⟩ := bd h
    have hk := Gr.after (Gr.of (kq_pfP e235)) hk
    obtain ⟨n241, e241, h⟩ := bd h
    have hk := Gr.trans hk (gr_A (by decide) e241)
    obtain ⟨μ243, e243, h⟩ := bd h
    have hk := Gr.after (Gr.of (kq_pfP e243)) hk
    obtain ⟨n249, e249, h⟩ := bd h
    have hk := Gr.trans hk (gr_A (by decide) e249)
    obtain ⟨μ251, e251, h⟩ := bd h
    have hk := Gr.after (Gr.of (kq_pfP e251)) hk
    obtain ⟨n257, e257, h⟩ := bd h
    have hk := Gr.trans hk (gr_A (by decide) e257)
    obtain ⟨μ259, e259, h⟩ := bd h
    have hk := Gr.after (Gr.of (kq_pfP e259)) hk
    obtain ⟨n265, e265, h⟩ := bd h
    have hk := Gr.trans hk (gr_A (by decide) e265)
    obtain ⟨μ267, e267, h⟩ := bd h
    have hk := Gr.after (Gr.of (kq_pfP e267)) hk
    obtain ⟨n273, e273, h⟩ := bd h
    have hk := Gr.trans hk (gr_A (by decide) e273)
    obtain ⟨μ275, e275, h⟩ := bd h
    have hk := Gr.after (Gr.of (kq_pfP e275)) hk
    obtain ⟨n282, e282, h⟩ := bd h
    have hk := Gr.trans hk (gr_A (by decide) e282)
    obtain ⟨μ284, e284, h⟩ := bd h
    have hk := Gr.after (Gr.of (kq_pfP e284)) hk
    obtain ⟨n291, e291, h⟩ := bd h
    have hk := Gr.trans hk (gr_A (by decide) e291)
    obtain ⟨μ293, e293, h⟩ := bd h
    have hk := Gr.after (Gr.of (kq_pfP e293)) hk
    obtain ⟨n299, e299, h⟩ := bd h
    have hk := Gr.trans hk (gr_A (by decide) e299)
    obtain ⟨μ301, e301, h⟩ := bd h
    have hk := Gr.after (Gr.of (kq_pfP e301)) hk
    obtain ⟨n307, e307, h⟩ := bd h
    have hk := Gr.trans hk (gr_A (by decide) e307)
    obtain ⟨μ309, e309, h⟩ := bd h
    have hk := Gr.after (Gr.of (kq_pfP e309)) hk
    obtain ⟨n315, e315, h⟩ := bd h
    have hk := Gr.trans hk (gr_A (by decide) e315)
    obtain ⟨μ317, e317, h⟩ := bd h
    have hk := Gr.after (Gr.of (kq_pfP e317)) hk
    obtain ⟨n324, e324, h⟩ := bd h
    have hk := Gr.trans hk (gr_A (by decide) e324)
    obtain ⟨μ326, e326, h⟩ := bd h
    have hk := Gr.after (Gr.of (kq_pfP e326)) hk
    obtain ⟨n332, e332, h⟩ := bd h
    have hk := Gr.trans hk (gr_A (by decide) e332)
    obtain ⟨μ334, e334, h⟩ := bd h
    have hk := Gr.after (Gr.of (kq_pfP e334)) hk
    obtain ⟨n339, e339, h⟩ := bd h
    have hk := Gr.trans hk (gr_A (by decide) e339)
    obtain ⟨μ341, e341, h⟩ := bd h
    have hk := Gr.after (Gr.of (kq_pfP e341)) hk
    obtain ⟨n346, e346, h⟩ := bd h
    have hk := Gr.trans hk (gr_A (by decide) e346)
    obtain ⟨μ348, e348, h⟩ := bd h
    have hk := Gr.after (Gr.of (kq_pfP e348)) hk
    obtain ⟨n353, e353, h⟩ := bd h
    have hk := Gr.trans hk (gr_A (by decide) e353)
    obtain ⟨μ355, e355, h⟩ := bd h
    have hk := Gr.after (Gr.of (kq_pfP e355)) hk
    obtain ⟨n360, e360, h⟩ := bd h
    have hk := Gr.trans hk (gr_A (by decide) e360)
    obtain ⟨μ362, e362, h⟩ := bd h
    have hk := Gr.after (Gr.of (kq_pfP e362)) hk
    obtain ⟨x366, e366, h⟩ := bd h
    have hk := Gr.after (Gr.of (t_X11_begin e366)) hk
    obtain ⟨x370, e370, h⟩ := bd h
    have hk := Gr.after (Gr.of (t_X11_settle e370)) hk
    have h := Option.some.inj h
    subst h
    exact hk)
  refine r_newarray (t := 20) (by decide) rfl e225 ka_20 hC dX11_init_225 ?_
  obtain ⟨μ227, e227, h⟩ := Sat_bind h
  refine r_putP fk_X11_94 (Or.inr ⟨rfl, rfl, rfl, fl_X11_94⟩) rfl e227 dX11_init_227 ?_
  have hN := nz_tl (kq_pfP e227) hN
  refine r_aload_n dX11_init_230 0 rfl ?_
  refine r_bipush (v := 16) dX11_init_231 (by decide) ?_
  obtain ⟨n233, e233, h⟩ := Sat_bind h
  have hN := nz_A (by decide) e233 hN
  have hC := bud_of hN (by
    obtain ⟨x, h, hx⟩ := id h
    have hk : Gr (n233.2) (n233.2) := Gr.rfl
    refine bud_le (?_ : Gr _ ((fun (q : Mm) => q) x)) (hB x hx)
    obtain ⟨μ235, e235, h⟩ := bd h
    have hk := Gr.after (Gr.of (kq_pfP e235)) hk
    obtain ⟨n241, e241, h⟩ := bd h
    have hk := Gr.trans hk (gr_A (by decide) e241)
    obtain ⟨μ243, e243, h⟩ := bd h
    have hk := Gr.after (Gr.of (kq_pfP e243)) hk
    obtain ⟨n249, e249, h⟩ := bd h
    have hk := Gr.trans hk (gr_A (by decide) e249)
    obtain ⟨μ251, e251, h⟩ := bd h
    have hk := Gr.after (Gr.of (kq_pfP e251)) hk
    obtain ⟨n257, e257, h⟩ := bd h
    have hk := Gr.trans hk (gr_A (by decide) e257)
    obtain ⟨μ259, e259, h⟩ := bd h
    have hk := Gr.after (Gr.of (kq_pfP e259)) hk
    obtain ⟨n265, e265, h⟩ := bd h
    have hk := Gr.trans hk (gr_A (by decide) e265)
    obtain ⟨μ267, e267, h⟩ := bd h
    have hk := Gr.after (Gr.of (kq_pfP e267)) hk
    obtain ⟨n273, e273, h⟩ := bd h
    have hk := Gr.trans hk (gr_A (by decide) e273)
    obtain ⟨μ275, e275, h⟩ := bd h
    have hk := Gr.after (Gr.of (kq_pfP e275)) hk
    obtain ⟨n282, e282, h⟩ := bd h
    have hk := Gr.trans hk (gr_A (by decide) e282)
    obtain ⟨μ284, e284, h⟩ := bd h
    have hk := Gr.after (Gr.of (kq_pfP e284)) hk
    obtain ⟨n291, e291, h⟩ := bd h
    have hk := Gr.trans hk (gr_A (by decide) e291)
    obtain ⟨μ293, e293, h⟩ := bd h
    have hk := Gr.after (Gr.of (kq_pfP e293)) hk
    obtain ⟨n299, e299, h⟩ := bd h
    have hk := Gr.trans hk (gr_A (by decide) e299)
    obtain ⟨μ301, e301, h⟩ := bd h
    have hk := Gr.after (Gr.of (kq_pfP e301)) hk
    obtain ⟨n307, e307, h⟩ := bd h
    have hk := Gr.trans hk (gr_A (by decide) e307)
    obtain ⟨μ309, e309, h⟩ := bd h
    have hk := Gr.after (Gr.of (kq_pfP e309)) hk
    obtain ⟨n315, e315, h⟩ := bd h
    have hk := Gr.trans hk (gr_A (by decide) e315)
    obtain ⟨μ317, e317, h⟩ := bd h
    have hk := Gr.after (Gr.of (kq_pfP e317)) hk
    obtain ⟨n324, e324, h⟩ := bd h
    have hk := Gr.trans hk (gr_A (by decide) e324)
    obtain ⟨μ326, e326, h⟩ := bd h
    have hk := Gr.after (Gr.of (kq_pfP e326)) hk
    obtain ⟨n332, e332, h⟩ := bd h
    have hk := Gr.trans hk (gr_A (by decide) e332)
    obtain ⟨μ334, e334, h⟩ := bd h
    have hk := Gr.after (Gr.of (kq_pfP e334)) hk
    obtain ⟨n339, e339, h⟩ := bd h
    have hk := Gr.trans hk (gr_A (by decide) e339)
    obtain ⟨μ341, e341, h⟩ := bd h
    have hk := Gr.after (Gr.of (kq_pfP e341)) hk
    obtain ⟨n346, e346, h⟩ := bd h
    have hk := Gr.trans hk (gr_A (by decide) e346)
    obtain ⟨μ348, e348, h⟩ := bd h
    have hk := Gr.after (Gr.of (kq_pfP e348)) hk
    obtain ⟨n353, e353, h⟩ := bd h
    have hk := Gr.trans hk (gr_A (by decide) e353)
    obtain ⟨μ355, e355, h⟩ := bd h
    have hk := Gr.after (Gr.of (kq_pfP e355)) hk
    obtain ⟨n360, e360, h⟩ := bd h
    have hk := Gr.trans hk (gr_A (by decide) e360)
    obtain ⟨μ362, e362, h⟩ := bd h
    have hk := Gr.after (Gr.of (kq_pfP e362)) hk
    obtain ⟨x366, e366, h⟩ := bd h
    have hk := Gr.after (Gr.of (t_X11_begin e366)) hk
    obtain ⟨x370, e370, h⟩ := bd h
    have hk := Gr.after (Gr.of (t_X11_settle e370)) hk
    have h := Option.some.inj h
    subst h
    exact hk)
  refine r_newarray (t := 20) (by decide) rfl e233 ka_20 hC dX11_init_233 ?_
  obtain ⟨μ235, e235, h⟩ := Sat_bind h
  refine r_putP fk_X11_97 (Or.inr ⟨rfl, rfl, rfl, fl_X11_97⟩) rfl e235 dX11_init_235 ?_
  have hN := nz_tl (kq_pfP e235) hN
  refine r_aload_n dX11_init_238 0 rfl ?_
  refine r_bipush (v := 16) dX11_init_239 (by decide) ?_
  obtain ⟨n241, e241, h⟩ := Sat_bind h
  have hN := nz_A (by decide) e241 hN
  have hC := bud_of hN (by
    obtain ⟨x, h, hx⟩ := id h
    have hk : Gr (n241.2) (n241.2) := Gr.rfl
    refine bud_le (?_ : Gr _ ((fun (q : Mm) => q) x)) (hB x hx)
    obtain ⟨μ243, e243, h⟩ := bd h
    have hk := Gr.after (Gr.of (kq_pfP e243)) hk
    obtain ⟨n249, e249, h⟩ := bd h
    have hk := Gr.trans hk (gr_A (by decide) e249)
    obtain ⟨μ251, e251, h⟩ := bd h
    have hk := Gr.after (Gr.of (kq_pfP e251)) hk
    obtain ⟨n257, e257, h⟩ := bd h
    have hk := Gr.trans hk (gr_A (by decide) e257)
    obtain ⟨μ259, e259, h⟩ := bd h
    have hk := Gr.after (Gr.of (kq_pfP e259)) hk
    obtain ⟨n265, e265, h⟩ := bd h
    have hk := Gr.trans hk (gr_A (by decide) e265)
    obtain ⟨μ267, e267, h⟩ := bd h
    have hk := Gr.after (Gr.of (kq_pfP e267)) hk
    obtain ⟨n273, e273, h⟩ := bd h
    have hk := Gr.trans hk (gr_A (by decide) e273)
    obtain ⟨μ275, e275, h⟩ := bd h
    have hk := Gr.after (Gr.of (kq_pfP e275)) hk
    obtain ⟨n282, e282, h⟩ := bd h
    have hk := Gr.trans hk (gr_A (by decide) e282)
    obtain ⟨μ284, e284, h⟩ := bd h
    have hk := Gr.after (Gr.of (kq_pfP e284)) hk
    obtain ⟨n291, e291, h⟩ := bd h
    have hk := Gr.trans hk (gr_A (by decide) e291)
    obtain ⟨μ293, e293, h⟩ := bd h
    have hk := Gr.after (Gr.of (kq_pfP e293)) hk
    obtain ⟨n299, e299, h⟩ := bd h
    have hk := Gr.trans hk (gr_A (by decide) e299)
    obtain ⟨μ301, e301, h⟩ := bd h
    have hk := Gr.after (Gr.of (kq_pfP e301)) hk
    obtain ⟨n307, e307, h⟩ := bd h
    have hk := Gr.trans hk (gr_A (by decide) e307)
    obtain ⟨μ309, e309, h⟩ := bd h
    have hk := Gr.after (Gr.of (kq_pfP e309)) hk
    obtain ⟨n315, e315, h⟩ := bd h
    have hk := Gr.trans hk (gr_A (by decide) e315)
    obtain ⟨μ317, e317, h⟩ := bd h
    have hk := Gr.after (Gr.of (kq_pfP e317)) hk
    obtain ⟨n324, e324, h⟩ := bd h
    have hk := Gr.trans hk (gr_A (by decide) e324)
    obtain ⟨μ326, e326, h⟩ := bd h
    have hk := Gr.after (Gr.of (kq_pfP e326)) hk
    obtain ⟨n332, e332, h⟩ := bd h
    have hk := Gr.trans hk (gr_A (by decide) e332)
    obtain ⟨μ334, e334, h⟩ := bd h
    have hk := Gr.after (Gr.of (kq_pfP e334)) hk
    obtain ⟨n339, e339, h⟩ := bd h
    have hk := Gr.trans hk (gr_A (by decide) e339)
    obtain ⟨μ341, e341, h⟩ := bd h
    have hk := Gr.after (Gr.of (kq_pfP e341)) hk
    obtain ⟨n346, e346, h⟩ := bd h
    have hk := Gr.trans hk (gr_A (by decide) e346)
    obtain ⟨μ348, e348, h⟩ := bd h
    have hk := Gr.after (Gr.of (kq_pfP e348)) hk
    obtain ⟨n353, e353, h⟩ := bd h
    have hk := Gr.trans hk (gr_A (by decide) e353)
    obtain ⟨μ355, e355, h⟩ := bd h
    have hk := Gr.after (Gr.of (kq_pfP e355)) hk
    obtain ⟨n360, e360, h⟩ := bd h
    have hk := Gr.trans hk (gr_A (by decide) e360)
    obtain ⟨μ362, e362, h⟩ := bd h
    have hk := Gr.after (Gr.of (kq_pfP e362)) hk
    obtain ⟨x366, e366, h⟩ := bd h
    have hk := Gr.after (Gr.of (t_X11_begin e366)) hk
    obtain ⟨x370, e370, h⟩ := bd h
    have hk := Gr.after (Gr.of (t_X11_settle e370)) hk
    have h := Option.some.inj h
    subst h
    exact hk)
  refine r_newarray (t := 20) (by decide) rfl e241 ka_20 hC dX11_init_241 ?_
  obtain ⟨μ243, e243, h⟩ := Sat_bind h
  refine r_putP fk_X11_100 (Or.inr ⟨rfl, rfl, rfl, fl_X11_100⟩) rfl e243 dX11_init_243 ?_
  have hN := nz_tl (kq_pfP e243) hN
  refine r_aload_n dX11_init_246 0 rfl ?_
  refine r_bipush (v := 16) dX11_init_247 (by decide) ?_
  obtain ⟨n249, e249, h⟩ := Sat_bind h
  have hN := nz_A (by decide) e249 hN
  have hC := bud_of hN (by
    obtain ⟨x, h, hx⟩ := id h
    have hk : Gr (n249.2) (n249.2) := Gr.rfl
    refine bud_le (?_ : Gr _ ((fun (q : Mm) => q) x)) (hB x hx)
    obtain ⟨μ251, e251, h⟩ := bd h
    have hk := Gr.after (Gr.of (kq_pfP e251)) hk
    obtain ⟨n257, e257, h⟩ := bd h
    have hk := Gr.trans hk (gr_A (by decide) e257)
    obtain ⟨μ259, e259, h⟩ := bd h
    have hk := Gr.after (Gr.of (kq_pfP e259)) hk
    obtain ⟨n265, e265, h⟩ := bd h
    have hk := Gr.trans hk (gr_A (by decide) e265)
    obtain ⟨μ267, e267, h⟩ := bd h
    have hk := Gr.after (Gr.of (kq_pfP e267)) hk
    obtain ⟨n273, e273, h⟩ := bd h
    have hk := Gr.trans hk (gr_A (by decide) e273)
    obtain ⟨μ275, e275, h⟩ := bd h
    have hk := Gr.after (Gr.of (kq_pfP e275)) hk
    obtain ⟨n282, e282, h⟩ := bd h
    have hk := Gr.trans hk (gr_A (by decide) e282)
    obtain ⟨μ284, e284, h⟩ := bd h
    have hk := Gr.after (Gr.of (kq_pfP e284)) hk
    obtain ⟨n291, e291, h⟩ := bd h
    have hk := Gr.trans hk (gr_A (by decide) e291)
    obtain ⟨μ293, e293, h⟩ := bd h
    have hk := Gr.after (Gr.of (kq_pfP e293)) hk
    obtain ⟨n299, e299, h⟩ := bd h
    have hk := Gr.trans hk (gr_A (by decide) e299)
    obtain ⟨μ301, e301, h⟩ := bd h
    have hk := Gr.after (Gr.of (kq_pfP e301)) hk
    obtain ⟨n307, e307, h⟩ := bd h
    have hk := Gr.trans hk (gr_A (by decide) e307)
    obtain ⟨μ309, e309, h⟩ := bd h
    have hk := Gr.after (Gr.of (kq_pfP e309)) hk
    obtain ⟨n315, e315, h⟩ := bd h
    have hk := Gr.trans hk (gr_A (by decide) e315)
    obtain ⟨μ317, e317, h⟩ := bd h
    have hk := Gr.after (Gr.of (kq_pfP e317)) hk
    obtain ⟨n324, e324, h⟩ := bd h
    have hk := Gr.trans hk (gr_A (by decide) e324)
    obtain ⟨μ326, e326, h⟩ := bd h
    have hk := Gr.after (Gr.of (kq_pfP e326)) hk
    obtain ⟨n332, e332, h⟩ := bd h
    have hk := Gr.trans hk (gr_A (by decide) e332)
    obtain ⟨μ334, e334, h⟩ := bd h
    have hk := Gr.after (Gr.of (kq_pfP e334)) hk
    obtain ⟨n339, e339, h⟩ := bd h
    have hk := Gr.trans hk (gr_A (by decide) e339)
    obtain ⟨μ341, e341, h⟩ := bd h
    have hk := Gr.after (Gr.of (kq_pfP e341)) hk
    obtain ⟨n346, e346, h⟩ := bd h
    have hk := Gr.trans hk (gr_A (by decide) e346)
    obtain ⟨μ348, e348, h⟩ := bd h
    have hk := Gr.after (Gr.of (kq_pfP e348)) hk
    obtain ⟨n353, e353, h⟩ := bd h
    have hk := Gr.trans hk (gr_A (by decide) e353)
    obtain ⟨μ355, e355, h⟩ := bd h
    have hk := Gr.after (Gr.of (kq_pfP e355)) hk
    obtain ⟨n360, e360, h⟩ := bd h
    have hk := Gr.trans hk (gr_A (by decide) e360)
    obtain ⟨μ362, e362, h⟩ := bd h
    have hk := Gr.after (Gr.of (kq_pfP e362)) hk
    obtain ⟨x366, e366, h⟩ := bd h
    have hk := Gr.after (Gr.of (t_X11_begin e366)) hk
    obtain ⟨x370, e370, h⟩ := bd h
    have hk := Gr.after (Gr.of (t_X11_settle e370)) hk
    have h := Option.some.inj h
    subst h
    exact hk)
  refine r_newarray (t := 20) (by decide) rfl e249 ka_20 hC dX11_init_249 ?_
  obtain ⟨μ251, e251, h⟩ := Sat_bind h
  refine r_putP fk_X11_103 (Or.inr ⟨rfl, rfl, rfl, fl_X11_103⟩) rfl e251 dX11_init_251 ?_
  have hN := nz_tl (kq_pfP e251) hN
  refine r_aload_n dX11_init_254 0 rfl ?_
  refine r_bipush (v := 20) dX11_init_255 (by decide) ?_
  obtain ⟨n257, e257, h⟩ := Sat_bind h
  have hN := nz_A (by decide) e257 hN
  have hC := bud_of hN (by
    obtain ⟨x, h, hx⟩ := id h
    have hk : Gr (n257.2) (n257.2) := Gr.rfl
    refine bud_le (?_ : Gr _ ((fun (q : Mm) => q) x)) (hB x hx)
    obtain ⟨μ259, e259, h⟩ := bd h
    have hk := Gr.after (Gr.of (kq_pfP e259)) hk
    obtain ⟨n265, e265, h⟩ := bd h
    have hk := Gr.trans hk (gr_A (by decide) e265)
    obtain ⟨μ267, e267, h⟩ := bd h
    have hk := Gr.after (Gr.of (kq_pfP e267)) hk
    obtain ⟨n273, e273, h⟩ := bd h
    have hk := Gr.trans hk (gr_A (by decide) e273)
    obtain ⟨μ275, e275, h⟩ := bd h
    have hk := Gr.after (Gr.of (kq_pfP e275)) hk
    obtain ⟨n282, e282, h⟩ := bd h
    have hk := Gr.trans hk (gr_A (by decide) e282)
    obtain ⟨μ284, e284, h⟩ := bd h
    have hk := Gr.after (Gr.of (kq_pfP e284)) hk
    obtain ⟨n291, e291, h⟩ := bd h
    have hk := Gr.trans hk (gr_A (by decide) e291)
    obtain ⟨μ293, e293, h⟩ := bd h
    have hk := Gr.after (Gr.of (kq_pfP e293)) hk
    obtain ⟨n299, e299, h⟩ := bd h
    have hk := Gr.trans hk (gr_A (by decide) e299)
    obtain ⟨μ301, e301, h⟩ := bd h
    have hk := Gr.after (Gr.of (kq_pfP e301)) hk
    obtain ⟨n307, e307, h⟩ := bd h
    have hk := Gr.trans hk (gr_A (by decide) e307)
    obtain ⟨μ309, e309, h⟩ := bd h
    have hk := Gr.after (Gr.of (kq_pfP e309)) hk
    obtain ⟨n315, e315, h⟩ := bd h
    have hk := Gr.trans hk (gr_A (by decide) e315)
    obtain ⟨μ317, e317, h⟩ := bd h
    have hk := Gr.after (Gr.of (kq_pfP e317)) hk
    obtain ⟨n324, e324, h⟩ := bd h
    have hk := Gr.trans hk (gr_A (by decide) e324)
    obtain ⟨μ326, e326, h⟩ := bd h
    have hk := Gr.after (Gr.of (kq_pfP e326)) hk
    obtain ⟨n332, e332, h⟩ := bd h
    have hk := Gr.trans hk (gr_A (by decide) e332)
    obtain ⟨μ334, e334, h⟩ := bd h
    have hk := Gr.after (Gr.of (kq_pfP e334)) hk
    obtain ⟨n339, e339, h⟩ := bd h
    have hk := Gr.trans hk (gr_A (by decide) e339)
    obtain ⟨μ341, e341, h⟩ := bd h
    have hk := Gr.after (Gr.of (kq_pfP e341)) hk
    obtain ⟨n346, e346, h⟩ := bd h
    have hk := Gr.trans hk (gr_A (by decide) e346)
    obtain ⟨μ348, e348, h⟩ := bd h
    have hk := Gr.after (Gr.of (kq_pfP e348)) hk
    obtain ⟨n353, e353, h⟩ := bd h
    have hk := Gr.trans hk (gr_A (by decide) e353)
    obtain ⟨μ355, e355, h⟩ := bd h
    have hk := Gr.after (Gr.of (kq_pfP e355)) hk
    obtain ⟨n360, e360, h⟩ := bd h
    have hk := Gr.trans hk (gr_A (by decide) e360)
    obtain ⟨μ362, e362, h⟩ := bd h
    have hk := Gr.after (Gr.of (kq_pfP e362)) hk
    obtain ⟨x366, e366, h⟩ := bd h
    have hk := Gr.after (Gr.of (t_X11_begin e366)) hk
    obtain ⟨x370, e370, h⟩ := bd h
    have hk := Gr.after (Gr.of (t_X11_settle e370)) hk
    have h := Option.some.inj h
    subst h
    exact hk)
  refine r_newarray (t := 20) (by decide) rfl e257 ka_20 hC dX11_init_257 ?_
  obtain ⟨μ259, e259, h⟩ := Sat_bind h
  refine r_putP fk_X11_106 (Or.inr ⟨rfl, rfl, rfl, fl_X11_106⟩) rfl e259 dX11_init_259 ?_
  have hN := nz_tl (kq_pfP e259) hN
  refine r_aload_n dX11_init_262 0 rfl ?_
  refine r_bipush (v := 20) dX11_init_263 (by decide) ?_
  obtain ⟨n265, e265, h⟩ := Sat_bind h
  have hN := nz_A (by decide) e265 hN
  have hC := bud_of hN (by
    obtain ⟨x, h, hx⟩ := id h
    have hk : Gr (n265.2) (n265.2) := Gr.rfl
    refine bud_le (?_ : Gr _ ((fun (q : Mm) => q) x)) (hB x hx)
    obtain ⟨μ267, e267, h⟩ := bd h
    have hk := Gr.after (Gr.of (kq_pfP e267)) hk
    obtain ⟨n273, e273, h⟩ := bd h
    have hk := Gr.trans hk (gr_A (by decide) e273)
    obtain ⟨μ275, e275, h⟩ := bd h
    have hk := Gr.after (Gr.of (kq_pfP e275)) hk
    obtain ⟨n282, e282, h⟩ := bd h
    have hk := Gr.trans hk (gr_A (by decide) e282)
    obtain ⟨μ284, e284, h⟩ := bd h
    have hk := Gr.after (Gr.of (kq_pfP e284)) hk
    obtain ⟨n291, e291, h⟩ := bd h
    have hk := Gr.trans hk (gr_A (by decide) e291)
    obtain ⟨μ293, e293, h⟩ := bd h
    have hk := Gr.after (Gr.of (kq_pfP e293)) hk
    obtain ⟨n299, e299, h⟩ := bd h
    have hk := Gr.trans hk (gr_A (by decide) e299)
    obtain ⟨μ301, e301, h⟩ := bd h
    have hk := Gr.after (Gr.of (kq_pfP e301)) hk
    obtain ⟨n307, e307, h⟩ := bd h
    have hk := Gr.trans hk (gr_A (by decide) e307)
    obtain ⟨μ309, e309, h⟩ := bd h
    have hk := Gr.after (Gr.of (kq_pfP e309)) hk
    obtain ⟨n315, e315, h⟩ := bd h
    have hk := Gr.trans hk (gr_A (by decide) e315)
    obtain ⟨μ317, e317, h⟩ := bd h
    have hk := Gr.after (Gr.of (kq_pfP e317)) hk
    obtain ⟨n324, e324, h⟩ := bd h
    have hk := Gr.trans hk (gr_A (by decide) e324)
    obtain ⟨μ326, e326, h⟩ := bd h
    have hk := Gr.after (Gr.of (kq_pfP e326)) hk
    obtain ⟨n332, e332, h⟩ := bd h
    have hk := Gr.trans hk (gr_A (by decide) e332)
    obtain ⟨μ334, e334, h⟩ := bd h
    have hk := Gr.after (Gr.of (kq_pfP e334)) hk
    obtain ⟨n339, e339, h⟩ := bd h
    have hk := Gr.trans hk (gr_A (by decide) e339)
    obtain ⟨μ341, e341, h⟩ := bd h
    have hk := Gr.after (Gr.of (kq_pfP e341)) hk
    obtain ⟨n346, e346, h⟩ := bd h
    have hk := Gr.trans hk (gr_A (by decide) e346)
    obtain ⟨μ348, e348, h⟩ := bd h
    have hk := Gr.after (Gr.of (kq_pfP e348)) hk
    obtain ⟨n353, e353, h⟩ := bd h
    have hk := Gr.trans hk (gr_A (by decide) e353)
    obtain ⟨μ355, e355, h⟩ := bd h
    have hk := Gr.after (Gr.of (kq_pfP e355)) hk
    obtain ⟨n360, e360, h⟩ := bd h
    have hk := Gr.trans hk (gr_A (by decide) e360)
    obtain ⟨μ362, e362, h⟩ := bd h
    have hk := Gr.after (Gr.of (kq_pfP e362)) hk
    obtain ⟨x366, e366, h⟩ := bd h
    have hk := Gr.after (Gr.of (t_X11_begin e366)) hk
    obtain ⟨x370, e370, h⟩ := bd h
    have hk := Gr.after (Gr.of (t_X11_settle e370)) hk
    have h := Option.some.inj h
    subst h
    exact hk)
  refine r_newarray (t := 20) (by decide) rfl e265 ka_20 hC dX11_init_265 ?_
  obtain ⟨μ267, e267, h⟩ := Sat_bind h
  refine r_putP fk_X11_109 (Or.inr ⟨rfl, rfl, rfl, fl_X11_109⟩) rfl e267 dX11_init_267 ?_
  have hN := nz_tl (kq_pfP e267) hN
  refine r_aload_n dX11_init_270 0 rfl ?_
  refine r_bipush (v := 20) dX11_init_271 (by decide) ?_
  obtain ⟨n273, e273, h⟩ := Sat_bind h
  have hN := nz_A (by decide) e273 hN
  have hC := bud_of hN (by
    obtain ⟨x, h, hx⟩ := id h
    have hk : Gr (n273.2) (n273.2) := Gr.rfl
    refine bud_le (?_ : Gr _ ((fun (q : Mm) => q) x)) (hB x hx)
    obtain ⟨μ275, e275, h⟩ := bd h
    have hk := Gr.after (Gr.of (kq_pfP e275)) hk
    obtain ⟨n282, e282, h⟩ := bd h
    have hk := Gr.trans hk (gr_A (by decide) e282)
    obtain ⟨μ284, e284, h⟩ := bd h
    have hk := Gr.after (Gr.of (kq_pfP e284)) hk
    obtain ⟨n291, e291, h⟩ := bd h
    have hk := Gr.trans hk (gr_A (by decide) e291)
    obtain ⟨μ293, e293, h⟩ := bd h
    have hk := Gr.after (Gr.of (kq_pfP e293)) hk
    obtain ⟨n299, e299, h⟩ := bd h
    have hk := Gr.trans hk (gr_A (by decide) e299)
    obtain ⟨μ301, e301, h⟩ := bd h
    have hk := Gr.after (Gr.of (kq_pfP e301)) hk
    obtain ⟨n307, e307, h⟩ := bd h
    have hk := Gr.trans hk (gr_A (by decide) e307)
    obtain ⟨μ309, e309, h⟩ := bd h
    have hk := Gr.after (Gr.of (kq_pfP e309)) hk
    obtain ⟨n315, e315, h⟩ := bd h
    have hk := Gr.trans hk (gr_A (by decide) e315)
    obtain ⟨μ317, e317, h⟩ := bd h
    have hk := Gr.after (Gr.of (kq_pfP e317)) hk
    obtain ⟨n324, e324, h⟩ := bd h
    have hk := Gr.trans hk (gr_A (by decide) e324)
    obtain ⟨μ326, e326, h⟩ := bd h
    have hk := Gr.after (Gr.of (kq_pfP e326)) hk
    obtain ⟨n332, e332, h⟩ := bd h
    have hk := Gr.trans hk (gr_A (by decide) e332)
    obtain ⟨μ334, e334, h⟩ := bd h
    have hk := Gr.after (Gr.of (kq_pfP e334)) hk
    obtain ⟨n339, e339, h⟩ := bd h
    have hk := Gr.trans hk (gr_A (by decide) e339)
    obtain ⟨μ341, e341, h⟩ := bd h
    have hk := Gr.after (Gr.of (kq_pfP e341)) hk
    obtain ⟨n346, e346, h⟩ := bd h
    have hk := Gr.trans hk (gr_A (by decide) e346)
    obtain ⟨μ348, e348, h⟩ := bd h
    have hk := Gr.after (Gr.of (kq_pfP e348)) hk
    obtain ⟨n353, e353, h⟩ := bd h
    have hk := Gr.trans hk (gr_A (by decide) e353)
    obtain ⟨μ355, e355, h⟩ := bd h
    have hk := Gr.after (Gr.of (kq_pfP e355)) hk
    obtain ⟨n360, e360, h⟩ := bd h
    have hk := Gr.trans hk (gr_A (by decide) e360)
    obtain ⟨μ362, e362, h⟩ := bd h
    have hk := Gr.after (Gr.of (kq_pfP e362)) hk
    obtain ⟨x366, e366, h⟩ := bd h
    have hk := Gr.after (Gr.of (t_X11_begin e366)) hk
    obtain ⟨x370, e370, h⟩ := bd h
    have hk := Gr.after (Gr.of (t_X11_settle e370)) hk
    have h := Option.some.inj h
    subst h
    exact hk)
  refine r_newarray (t := 20) (by decide) rfl e273 ka_20 hC dX11_init_273 ?_
  obtain ⟨μ275, e275, h⟩ := Sat_bind h
  refine r_putP fk_X11_112 (Or.inr ⟨rfl, rfl, rfl, fl_X11_112⟩) rfl e275 dX11_init_275 ?_
  have hN := nz_tl (kq_pfP e275) hN
  refine r_aload_n dX11_init_278 0 rfl ?_
  refine r_sipush (v := 232) dX11_init_279 (by decide) ?_
  obtain ⟨n282, e282, h⟩ := Sat_bind h
  have hN := nz_A (by decide) e282 hN
  have hC := bud_of hN (by
    obtain ⟨x, h, hx⟩ := id h
    have hk : Gr (n282.2) (n282.2) := Gr.rfl
    refine bud_le (?_ : Gr _ ((fun (q : Mm) => q) x)) (hB x hx)
    obtain ⟨μ284, e284, h⟩ := bd h
    have hk := Gr.after (Gr.of (kq_pfP e284)) hk
    obtain ⟨n291, e291, h⟩ := bd h
    have hk := Gr.trans hk (gr_A (by decide) e291)
    obtain ⟨μ293, e293, h⟩ := bd h
    have hk := Gr.after (Gr.of (kq_pfP e293)) hk
    obtain ⟨n299, e299, h⟩ := bd h
    have hk := Gr.trans hk (gr_A (by decide) e299)
    obtain ⟨μ301, e301, h⟩ := bd h
    have hk := Gr.after (Gr.of (kq_pfP e301)) hk
    obtain ⟨n307, e307, h⟩ := bd h
    have hk := Gr.trans hk (gr_A (by decide) e307)
    obtain ⟨μ309, e309, h⟩ := bd h
    have hk := Gr.after (Gr.of (kq_pfP e309)) hk
    obtain ⟨n315, e315, h⟩ := bd h
    have hk := Gr.trans hk (gr_A (by decide) e315)
    obtain ⟨μ317, e317, h⟩ := bd h
    have hk := Gr.after (Gr.of (kq_pfP e317)) hk
    obtain ⟨n324, e324, h⟩ := bd h
    have hk := Gr.trans hk (gr_A (by decide) e324)
    obtain ⟨μ326, e326, h⟩ := bd h
    have hk := Gr.after (Gr.of (kq_pfP e326)) hk
    obtain ⟨n332, e332, h⟩ := bd h
    have hk := Gr.trans hk (gr_A (by decide) e332)
    obtain ⟨μ334, e334, h⟩ := bd h
    have hk := Gr.after (Gr.of (kq_pfP e334)) hk
    obtain ⟨n339, e339, h⟩ := bd h
    have hk := Gr.trans hk (gr_A (by decide) e339)
    obtain ⟨μ341, e341, h⟩ := bd h
    have hk := Gr.after (Gr.of (kq_pfP e341)) hk
    obtain ⟨n346, e346, h⟩ := bd h
    have hk := Gr.trans hk (gr_A (by decide) e346)
    obtain ⟨μ348, e348, h⟩ := bd h
    have hk := Gr.after (Gr.of (kq_pfP e348)) hk
    obtain ⟨n353, e353, h⟩ := bd h
    have hk := Gr.trans hk (gr_A (by decide) e353)
    obtain ⟨μ355, e355, h⟩ := bd h
    have hk := Gr.after (Gr.of (kq_pfP e355)) hk
    obtain ⟨n360, e360, h⟩ := bd h
    have hk := Gr.trans hk (gr_A (by decide) e360)
    obtain ⟨μ362, e362, h⟩ := bd h
    have hk := Gr.after (Gr.of (kq_pfP e362)) hk
    obtain ⟨x366, e366, h⟩ := bd h
    have hk := Gr.after (Gr.of (t_X11_begin e366)) hk
    obtain ⟨x370, e370, h⟩ := bd h
    have hk := Gr.after (Gr.of (t_X11_settle e370)) hk
    have h := Option.some.inj h
    subst h
    exact hk)
  refine r_newarray (t := 21) (by decide) rfl e282 ka_21 hC dX11_init_282 ?_
  obtain ⟨μ284, e284, h⟩ := Sat_bind h
  refine r_putP fk_X11_115 (Or.inr ⟨rfl, rfl, rfl, fl_X11_115⟩) rfl e284 dX11_init_284 ?_
  have hN := nz_tl (kq_pfP e284) hN
  refine r_aload_n dX11_init_287 0 rfl ?_
  refine r_sipush (v := 2688) dX11_init_288 (by decide) ?_
  obtain ⟨n291, e291, h⟩ := Sat_bind h
  have hN := nz_A (by decide) e291 hN
  have hC := bud_of hN (by
    obtain ⟨x, h, hx⟩ := id h
    have hk : Gr (n291.2) (n291.2) := Gr.rfl
    refine bud_le (?_ : Gr _ ((fun (q : Mm) => q) x)) (hB x hx)
    obtain ⟨μ293, e293, h⟩ := bd h
    have hk := Gr.after (Gr.of (kq_pfP e293)) hk
    obtain ⟨n299, e299, h⟩ := bd h
    have hk := Gr.trans hk (gr_A (by decide) e299)
    obtain ⟨μ301, e301, h⟩ := bd h
    have hk := Gr.after (Gr.of (kq_pfP e301)) hk
    obtain ⟨n307, e307, h⟩ := bd h
    have hk := Gr.trans hk (gr_A (by decide) e307)
    obtain ⟨μ309, e309, h⟩ := bd h
    have hk := Gr.after (Gr.of (kq_pfP e309)) hk
    obtain ⟨n315, e315, h⟩ := bd h
    have hk := Gr.trans hk (gr_A (by decide) e315)
    obtain ⟨μ317, e317, h⟩ := bd h
    have hk := Gr.after (Gr.of (kq_pfP e317)) hk
    obtain ⟨n324, e324, h⟩ := bd h
    have hk := Gr.trans hk (gr_A (by decide) e324)
    obtain ⟨μ326, e326, h⟩ := bd h
    have hk := Gr.after (Gr.of (kq_pfP e326)) hk
    obtain ⟨n332, e332, h⟩ := bd h
    have hk := Gr.trans hk (gr_A (by decide) e332)
    obtain ⟨μ334, e334, h⟩ := bd h
    have hk := Gr.after (Gr.of (kq_pfP e334)) hk
    obtain ⟨n339, e339, h⟩ := bd h
    have hk := Gr.trans hk (gr_A (by decide) e339)
    obtain ⟨μ341, e341, h⟩ := bd h
    have hk := Gr.after (Gr.of (kq_pfP e341)) hk
    obtain ⟨n346, e346, h⟩ := bd h
    have hk := Gr.trans hk (gr_A (by decide) e346)
    obtain ⟨μ348, e348, h⟩ := bd h
    have hk := Gr.after (Gr.of (kq_pfP e348)) hk
    obtain ⟨n353, e353, h⟩ := bd h
    have hk := Gr.trans hk (gr_A (by decide) e353)
    obtain ⟨μ355, e355, h⟩ := bd h
    have hk := Gr.after (Gr.of (kq_pfP e355)) hk
    obtain ⟨n360, e360, h⟩ := bd h
    have hk := Gr.trans hk (gr_A (by decide) e360)
    obtain ⟨μ362, e362, h⟩ := bd h
    have hk := Gr.after (Gr.of (kq_pfP e362)) hk
    obtain ⟨x366, e366, h⟩ := bd h
    have hk := Gr.after (Gr.of (t_X11_begin e366)) hk
    obtain ⟨x370, e370, h⟩ := bd h
    have hk := Gr.after (Gr.of (t_X11_settle e370)) hk
    have h := Option.some.inj h
    subst h
    exact hk)
  refine r_newarray (t := 20) (by decide) rfl e291 ka_20 hC dX11_init_291 ?_
  obtain ⟨μ293, e293, h⟩ := Sat_bind h
  refine r_putP fk_X11_118 (Or.inr ⟨rfl, rfl, rfl, fl_X11_118⟩) rfl e293 dX11_init_293 ?_
  have hN := nz_tl (kq_pfP e293) hN
  refine r_aload_n dX11_init_296 0 rfl ?_
  refine r_bipush (v := 9) dX11_init_297 (by decide) ?_
  obtain ⟨n299, e299, h⟩ := Sat_bind h
  have hN := nz_A (by decide) e299 hN
  have hC := bud_of hN (by
    obtain ⟨x, h, hx⟩ := id h
    have hk : Gr (n299.2) (n299.2) := Gr.rfl
    refine bud_le (?_ : Gr _ ((fun (q : Mm) => q) x)) (hB x hx)
    obtain ⟨μ301, e301, h⟩ := bd h
    have hk := Gr.after (Gr.of (kq_pfP e301)) hk
    obtain ⟨n307, e307, h⟩ := bd h
    have hk := Gr.trans hk (gr_A (by decide) e307)
    obtain ⟨μ309, e309, h⟩ := bd h
    have hk := Gr.after (Gr.of (kq_pfP e309)) hk
    obtain ⟨n315, e315, h⟩ := bd h
    have hk := Gr.trans hk (gr_A (by decide) e315)
    obtain ⟨μ317, e317, h⟩ := bd h
    have hk := Gr.after (Gr.of (kq_pfP e317)) hk
    obtain ⟨n324, e324, h⟩ := bd h
    have hk := Gr.trans hk (gr_A (by decide) e324)
    obtain ⟨μ326, e326, h⟩ := bd h
    have hk := Gr.after (Gr.of (kq_pfP e326)) hk
    obtain ⟨n332, e332, h⟩ := bd h
    have hk := Gr.trans hk (gr_A (by decide) e332)
    obtain ⟨μ334, e334, h⟩ := bd h
    have hk := Gr.after (Gr.of (kq_pfP e334)) hk
    obtain ⟨n339, e339, h⟩ := bd h
    have hk := Gr.trans hk (gr_A (by decide) e339)
    obtain ⟨μ341, e341, h⟩ := bd h
    have hk := Gr.after (Gr.of (kq_pfP e341)) hk
    obtain ⟨n346, e346, h⟩ := bd h
    have hk := Gr.trans hk (gr_A (by decide) e346)
    obtain ⟨μ348, e348, h⟩ := bd h
    have hk := Gr.after (Gr.of (kq_pfP e348)) hk
    obtain ⟨n353, e353, h⟩ := bd h
    have hk := Gr.trans hk (gr_A (by decide) e353)
    obtain ⟨μ355, e355, h⟩ := bd h
    have hk := Gr.after (Gr.of (kq_pfP e355)) hk
    obtain ⟨n360, e360, h⟩ := bd h
    have hk := Gr.trans hk (gr_A (by decide) e360)
    obtain ⟨μ362, e362, h⟩ := bd h
    have hk := Gr.after (Gr.of (kq_pfP e362)) hk
    obtain ⟨x366, e366, h⟩ := bd h
    have hk := Gr.after (Gr.of (t_X11_begin e366)) hk
    obtain ⟨x370, e370, h⟩ := bd h
    have hk := Gr.after (Gr.of (t_X11_settle e370)) hk
    have h := Option.some.inj h
    subst h
    exact hk)
  refine r_newarray (t := 20) (by decide) rfl e299 ka_20 hC dX11_init_299 ?_
  obtain ⟨μ301, e301, h⟩ := Sat_bind h
  refine r_putP fk_X11_121 (Or.inr ⟨rfl, rfl, rfl, fl_X11_121⟩) rfl e301 dX11_init_301 ?_
  have hN := nz_tl (kq_pfP e301) hN
  refine r_aload_n dX11_init_304 0 rfl ?_
  refine r_bipush (v := 16) dX11_init_305 (by decide) ?_
  obtain ⟨n307, e307, h⟩ := Sat_bind h
  have hN := nz_A (by decide) e307 hN
  have hC := bud_of hN (by
    obtain ⟨x, h, hx⟩ := id h
    have hk : Gr (n307.2) (n307.2) := Gr.rfl
    refine bud_le (?_ : Gr _ ((fun (q : Mm) => q) x)) (hB x hx)
    obtain ⟨μ309, e309, h⟩ := bd h
    have hk := Gr.after (Gr.of (kq_pfP e309)) hk
    obtain ⟨n315, e315, h⟩ := bd h
    have hk := Gr.trans hk (gr_A (by decide) e315)
    obtain ⟨μ317, e317, h⟩ := bd h
    have hk := Gr.after (Gr.of (kq_pfP e317)) hk
    obtain ⟨n324, e324, h⟩ := bd h
    have hk := Gr.trans hk (gr_A (by decide) e324)
    obtain ⟨μ326, e326, h⟩ := bd h
    have hk := Gr.after (Gr.of (kq_pfP e326)) hk
    obtain ⟨n332, e332, h⟩ := bd h
    have hk := Gr.trans hk (gr_A (by decide) e332)
    obtain ⟨μ334, e334, h⟩ := bd h
    have hk := Gr.after (Gr.of (kq_pfP e334)) hk
    obtain ⟨n339, e339, h⟩ := bd h
    have hk := Gr.trans hk (gr_A (by decide) e339)
    obtain ⟨μ341, e341, h⟩ := bd h
    have hk := Gr.after (Gr.of (kq_pfP e341)) hk
    obtain ⟨n346, e346, h⟩ := bd h
    have hk := Gr.trans hk (gr_A (by decide) e346)
    obtain ⟨μ348, e348, h⟩ := bd h
    have hk := Gr.after (Gr.of (kq_pfP e348)) hk
    obtain ⟨n353, e353, h⟩ := bd h
    have hk := Gr.trans hk (gr_A (by decide) e353)
    obtain ⟨μ355, e355, h⟩ := bd h
    have hk := Gr.after (Gr.of (kq_pfP e355)) hk
    obtain ⟨n360, e360, h⟩ := bd h
    have hk := Gr.trans hk (gr_A (by decide) e360)
    obtain ⟨μ362, e362, h⟩ := bd h
    have hk := Gr.after (Gr.of (kq_pfP e362)) hk
    obtain ⟨x366, e366, h⟩ := bd h
    have hk := Gr.after (Gr.of (t_X11_begin e366)) hk
    obtain ⟨x370, e370, h⟩ := bd h
    have hk := Gr.after (Gr.of (t_X11_settle e370)) hk
    have h := Option.some.inj h
    subst h
    exact hk)
  refine r_newarray (t := 20) (by decide) rfl e307 ka_20 hC dX11_init_307 ?_
  obtain ⟨μ309, e309, h⟩ := Sat_bind h
  refine r_putP fk_X11_124 (Or.inr ⟨rfl, rfl, rfl, fl_X11_124⟩) rfl e309 dX11_init_309 ?_
  have hN := nz_tl (kq_pfP e309) hN
  refine r_aload_n dX11_init_312 0 rfl ?_
  refine r_bipush (v := 21) dX11_init_313 (by decide) ?_
  obtain ⟨n315, e315, h⟩ := Sat_bind h
  have hN := nz_A (by decide) e315 hN
  have hC := bud_of hN (by
    obtain ⟨x, h, hx⟩ := id h
    have hk : Gr (n315.2) (n315.2) := Gr.rfl
    refine bud_le (?_ : Gr _ ((fun (q : Mm) => q) x)) (hB x hx)
    obtain ⟨μ317, e317, h⟩ := bd h
    have hk := Gr.after (Gr.of (kq_pfP e317)) hk
    obtain ⟨n324, e324, h⟩ := bd h
    have hk := Gr.trans hk (gr_A (by decide) e324)
    obtain ⟨μ326, e326, h⟩ := bd h
    have hk := Gr.after (Gr.of (kq_pfP e326)) hk
    obtain ⟨n332, e332, h⟩ := bd h
    have hk := Gr.trans hk (gr_A (by decide) e332)
    obtain ⟨μ334, e334, h⟩ := bd h
    have hk := Gr.after (Gr.of (kq_pfP e334)) hk
    obtain ⟨n339, e339, h⟩ := bd h
    have hk := Gr.trans hk (gr_A (by decide) e339)
    obtain ⟨μ341, e341, h⟩ := bd h
    have hk := Gr.after (Gr.of (kq_pfP e341)) hk
    obtain ⟨n346, e346, h⟩ := bd h
    have hk := Gr.trans hk (gr_A (by decide) e346)
    obtain ⟨μ348, e348, h⟩ := bd h
    have hk := Gr.after (Gr.of (kq_pfP e348)) hk
    obtain ⟨n353, e353, h⟩ := bd h
    have hk := Gr.trans hk (gr_A (by decide) e353)
    obtain ⟨μ355, e355, h⟩ := bd h
    have hk := Gr.after (Gr.of (kq_pfP e355)) hk
    obtain ⟨n360, e360, h⟩ := bd h
    have hk := Gr.trans hk (gr_A (by decide) e360)
    obtain ⟨μ362, e362, h⟩ := bd h
    have hk := Gr.after (Gr.of (kq_pfP e362)) hk
    obtain ⟨x366, e366, h⟩ := bd h
    have hk := Gr.after (Gr.of (t_X11_begin e366)) hk
    obtain ⟨x370, e370, h⟩ := bd h
    have hk := Gr.after (Gr.of (t_X11_settle e370)) hk
    have h := Option.some.inj h
    subst h
    exact hk)
  refine r_newarray (t := 20) (by decide) rfl e315 ka_20 hC dX11_init_315 ?_
  obtain ⟨μ317, e317, h⟩ := Sat_bind h
  refine r_putP fk_X11_127 (Or.inr ⟨rfl, rfl, rfl, fl_X11_127⟩) rfl e317 dX11_init_317 ?_
  have hN := nz_tl (kq_pfP e317) hN
  refine r_aload_n dX11_init_320 0 rfl ?_
  refine r_sipush (v := 231) dX11_init_321 (by decide) ?_
  obtain ⟨n324, e324, h⟩ := Sat_bind h
  have hN := nz_A (by decide) e324 hN
  have hC := bud_of hN (by
    obtain ⟨x, h, hx⟩ := id h
    have hk : Gr (n324.2) (n324.2) := Gr.rfl
    refine bud_le (?_ : Gr _ ((fun (q : Mm) => q) x)) (hB x hx)
    obtain ⟨μ326, e326, h⟩ := bd h
    have hk := Gr.after (Gr.of (kq_pfP e326)) hk
    obtain ⟨n332, e332, h⟩ := bd h
    have hk := Gr.trans hk (gr_A (by decide) e332)
    obtain ⟨μ334, e334, h⟩ := bd h
    have hk := Gr.after (Gr.of (kq_pfP e334)) hk
    obtain ⟨n339, e339, h⟩ := bd h
    have hk := Gr.trans hk (gr_A (by decide) e339)
    obtain ⟨μ341, e341, h⟩ := bd h
    have hk := Gr.after (Gr.of (kq_pfP e341)) hk
    obtain ⟨n346, e346, h⟩ := bd h
    have hk := Gr.trans hk (gr_A (by decide) e346)
    obtain ⟨μ348, e348, h⟩ := bd h
    have hk := Gr.after (Gr.of (kq_pfP e348)) hk
    obtain ⟨n353, e353, h⟩ := bd h
    have hk := Gr.trans hk (gr_A (by decide) e353)
    obtain ⟨μ355, e355, h⟩ := bd h
    have hk := Gr.after (Gr.of (kq_pfP e355)) hk
    obtain ⟨n360, e360, h⟩ := bd h
    have hk := Gr.trans hk (gr_A (by decide) e360)
    obtain ⟨μ362, e362, h⟩ := bd h
    have hk := Gr.after (Gr.of (kq_pfP e362)) hk
    obtain ⟨x366, e366, h⟩ := bd h
    have hk := Gr.after (Gr.of (t_X11_begin e366)) hk
    obtain ⟨x370, e370, h⟩ := bd h
    have hk := Gr.after (Gr.of (t_X11_settle e370)) hk
    have h := Option.some.inj h
    subst h
    exact hk)
  refine r_newarray (t := 21) (by decide) rfl e324 ka_21 hC dX11_init_324 ?_
  obtain ⟨μ326, e326, h⟩ := Sat_bind h
  refine r_putP fk_X11_130 (Or.inr ⟨rfl, rfl, rfl, fl_X11_130⟩) rfl e326 dX11_init_326 ?_
  have hN := nz_tl (kq_pfP e326) hN
  refine r_aload_n dX11_init_329 0 rfl ?_
  refine r_bipush (v := 32) dX11_init_330 (by decide) ?_
  obtain ⟨n332, e332, h⟩ := Sat_bind h
  have hN := nz_A (by decide) e332 hN
  have hC := bud_of hN (by
    obtain ⟨x, h, hx⟩ := id h
    have hk : Gr (n332.2) (n332.2) := Gr.rfl
    refine bud_le (?_ : Gr _ ((fun (q : Mm) => q) x)) (hB x hx)
    obtain ⟨μ334, e334, h⟩ := bd h
    have hk := Gr.after (Gr.of (kq_pfP e334)) hk
    obtain ⟨n339, e339, h⟩ := bd h
    have hk := Gr.trans hk (gr_A (by decide) e339)
    obtain ⟨μ341, e341, h⟩ := bd h
    have hk := Gr.after (Gr.of (kq_pfP e341)) hk
    obtain ⟨n346, e346, h⟩ := bd h
    have hk := Gr.trans hk (gr_A (by decide) e346)
    obtain ⟨μ348, e348, h⟩ := bd h
    have hk := Gr.after (Gr.of (kq_pfP e348)) hk
    obtain ⟨n353, e353, h⟩ := bd h
    have hk := Gr.trans hk (gr_A (by decide) e353)
    obtain ⟨μ355, e355, h⟩ := bd h
    have hk := Gr.after (Gr.of (kq_pfP e355)) hk
    obtain ⟨n360, e360, h⟩ := bd h
    have hk := Gr.trans hk (gr_A (by decide) e360)
    obtain ⟨μ362, e362, h⟩ := bd h
    have hk := Gr.after (Gr.of (kq_pfP e362)) hk
    obtain ⟨x366, e366, h⟩ := bd h
    have hk := Gr.after (Gr.of (t_X11_begin e366)) hk
    obtain ⟨x370, e370, h⟩ := bd h
    have hk := Gr.after (Gr.of (t_X11_settle e370)) hk
    have h := Option.some.inj h
    subst h
    exact hk)
  refine r_newarray (t := 20) (by decide) rfl e332 ka_20 hC dX11_init_332 ?_
  obtain ⟨μ334, e334, h⟩ := Sat_bind h
  refine r_putP fk_X11_133 (Or.inr ⟨rfl, rfl, rfl, fl_X11_133⟩) rfl e334 dX11_init_334 ?_
  have hN := nz_tl (kq_pfP e334) hN
  refine r_aload_n dX11_init_337 0 rfl ?_
  refine r_iconst (v := 3) dX11_init_338 (by decide) ?_
  obtain ⟨n339, e339, h⟩ := Sat_bind h
  have hN := nz_A (by decide) e339 hN
  have hC := bud_of hN (by
    obtain ⟨x, h, hx⟩ := id h
    have hk : Gr (n339.2) (n339.2) := Gr.rfl
    refine bud_le (?_ : Gr _ ((fun (q : Mm) => q) x)) (hB x hx)
    obtain ⟨μ341, e341, h⟩ := bd h
    have hk := Gr.after (Gr.of (kq_pfP e341)) hk
    obtain ⟨n346, e346, h⟩ := bd h
    have hk := Gr.trans hk (gr_A (by decide) e346)
    obtain ⟨μ348, e348, h⟩ := bd h
    have hk := Gr.after (Gr.of (kq_pfP e348)) hk
    obtain ⟨n353, e353, h⟩ := bd h
    have hk := Gr.trans hk (gr_A (by decide) e353)
    obtain ⟨μ355, e355, h⟩ := bd h
    have hk := Gr.after (Gr.of (kq_pfP e355)) hk
    obtain ⟨n360, e360, h⟩ := bd h
    have hk := Gr.trans hk (gr_A (by decide) e360)
    obtain ⟨μ362, e362, h⟩ := bd h
    have hk := Gr.after (Gr.of (kq_pfP e362)) hk
    obtain ⟨x366, e366, h⟩ := bd h
    have hk := Gr.after (Gr.of (t_X11_begin e366)) hk
    obtain ⟨x370, e370, h⟩ := bd h
    have hk := Gr.after (Gr.of (t_X11_settle e370)) hk
    have h := Option.some.inj h
    subst h
    exact hk)
  refine r_newarray (t := 20) (by decide) rfl e339 ka_20 hC dX11_init_339 ?_
  obtain ⟨μ341, e341, h⟩ := Sat_bind h
  refine r_putP fk_X11_136 (Or.inr ⟨rfl, rfl, rfl, fl_X11_136⟩) rfl e341 dX11_init_341 ?_
  have hN := nz_tl (kq_pfP e341) hN
  refine r_aload_n dX11_init_344 0 rfl ?_
  refine r_iconst (v := 3) dX11_init_345 (by decide) ?_
  obtain ⟨n346, e346, h⟩ := Sat_bind h
  have hN := nz_A (by decide) e346 hN
  have hC := bud_of hN (by
    obtain ⟨x, h, hx⟩ := id h
    have hk : Gr (n346.2) (n346.2) := Gr.rfl
    refine bud_le (?_ : Gr _ ((fun (q : Mm) => q) x)) (hB x hx)
    obtain ⟨μ348, e348, h⟩ := bd h
    have hk := Gr.after (Gr.of (kq_pfP e348)) hk
    obtain ⟨n353, e353, h⟩ := bd h
    have hk := Gr.trans hk (gr_A (by decide) e353)
    obtain ⟨μ355, e355, h⟩ := bd h
    have hk := Gr.after (Gr.of (kq_pfP e355)) hk
    obtain ⟨n360, e360, h⟩ := bd h
    have hk := Gr.trans hk (gr_A (by decide) e360)
    obtain ⟨μ362, e362, h⟩ := bd h
    have hk := Gr.after (Gr.of (kq_pfP e362)) hk
    obtain ⟨x366, e366, h⟩ := bd h
    have hk := Gr.after (Gr.of (t_X11_begin e366)) hk
    obtain ⟨x370, e370, h⟩ := bd h
    have hk := Gr.after (Gr.of (t_X11_settle e370)) hk
    have h := Option.some.inj h
    subst h
    exact hk)
  refine r_newarray (t := 20) (by decide) rfl e346 ka_20 hC dX11_init_346 ?_
  obtain ⟨μ348, e348, h⟩ := Sat_bind h
  refine r_putP fk_X11_139 (Or.inr ⟨rfl, rfl, rfl, fl_X11_139⟩) rfl e348 dX11_init_348 ?_
  have hN := nz_tl (kq_pfP e348) hN
  refine r_aload_n dX11_init_351 0 rfl ?_
  refine r_iconst (v := 3) dX11_init_352 (by decide) ?_
  obtain ⟨n353, e353, h⟩ := Sat_bind h
  have hN := nz_A (by decide) e353 hN
  have hC := bud_of hN (by
    obtain ⟨x, h, hx⟩ := id h
    have hk : Gr (n353.2) (n353.2) := Gr.rfl
    refine bud_le (?_ : Gr _ ((fun (q : Mm) => q) x)) (hB x hx)
    obtain ⟨μ355, e355, h⟩ := bd h
    have hk := Gr.after (Gr.of (kq_pfP e355)) hk
    obtain ⟨n360, e360, h⟩ := bd h
    have hk := Gr.trans hk (gr_A (by decide) e360)
    obtain ⟨μ362, e362, h⟩ := bd h
    have hk := Gr.after (Gr.of (kq_pfP e362)) hk
    obtain ⟨x366, e366, h⟩ := bd h
    have hk := Gr.after (Gr.of (t_X11_begin e366)) hk
    obtain ⟨x370, e370, h⟩ := bd h
    have hk := Gr.after (Gr.of (t_X11_settle e370)) hk
    have h := Option.some.inj h
    subst h
    exact hk)
  refine r_newarray (t := 21) (by decide) rfl e353 ka_21 hC dX11_init_353 ?_
  obtain ⟨μ355, e355, h⟩ := Sat_bind h
  refine r_putP fk_X11_142 (Or.inr ⟨rfl, rfl, rfl, fl_X11_142⟩) rfl e355 dX11_init_355 ?_
  have hN := nz_tl (kq_pfP e355) hN
  refine r_aload_n dX11_init_358 0 rfl ?_
  refine r_iconst (v := 3) dX11_init_359 (by decide) ?_
  obtain ⟨n360, e360, h⟩ := Sat_bind h
  have hN := nz_A (by decide) e360 hN
  have hC := bud_of hN (by
    obtain ⟨x, h, hx⟩ := id h
    have hk : Gr (n360.2) (n360.2) := Gr.rfl
    refine bud_le (?_ : Gr _ ((fun (q : Mm) => q) x)) (hB x hx)
    obtain ⟨μ362, e362, h⟩ := bd h
    have hk := Gr.after (Gr.of (kq_pfP e362)) hk
    obtain ⟨x366, e366, h⟩ := bd h
    have hk := Gr.after (Gr.of (t_X11_begin e366)) hk
    obtain ⟨x370, e370, h⟩ := bd h
    have hk := Gr.after (Gr.of (t_X11_settle e370)) hk
    have h := Option.some.inj h
    subst h
    exact hk)
  refine r_newarray (t := 23) (by decide) rfl e360 ka_23 hC dX11_init_360 ?_
  obtain ⟨μ362, e362, h⟩ := Sat_bind h
  refine r_putP fk_X11_145 (Or.inr ⟨rfl, rfl, rfl, fl_X11_145⟩) rfl e362 dX11_init_362 ?_
  have hN := nz_tl (kq_pfP e362) hN
  refine r_aload_n dX11_init_365 0 rfl ?_
  obtain ⟨x366, e366, h⟩ := Sat_bind h
  refine r_cV (t := 12) [] [] (m_X11_begin a0 μ362 e366) ck_X11_begin lk_X11_149 in_X11_begin se_X11_begin (kd_of e366) ⟨rfl, by decide, by decide⟩ rfl rfl (Nat.le_of_ble_eq_true rfl) ⟨Nat.le_of_ble_eq_true rfl, Nat.le_of_ble_eq_true rfl⟩ hC dX11_init_366 ?_
  have hN := nz_tl (t_X11_begin e366) hN
  refine r_aload_n dX11_init_369 0 rfl ?_
  obtain ⟨x370, e370, h⟩ := Sat_bind h
  refine r_cV (t := 12) [] [] (m_X11_settle a0 x366 e370) ck_X11_settle lk_X11_152 in_X11_settle se_X11_settle (kd_of e370) ⟨rfl, by decide, by decide⟩ rfl rfl (Nat.le_of_ble_eq_true rfl) ⟨Nat.le_of_ble_eq_true rfl, Nat.le_of_ble_eq_true rfl⟩ hC dX11_init_370 ?_
  have hN := nz_tl (t_X11_settle e370) hN
  refine r_widen hC.1 hC.2 ?_
  exact r_vreturn rfl (by rw [← Sat_eq h]; exact ⟨rfl, rfl⟩) dX11_init_373
