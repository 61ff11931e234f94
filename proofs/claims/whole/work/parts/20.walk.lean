theorem dX11_said_0 : decode cX11_said 0 = .ok (.aload_n 0, 1) := by decide +kernel
theorem dX11_said_1 : decode cX11_said 1 = .ok (.iload_n 1, 1) := by decide +kernel
theorem dX11_said_2 : decode cX11_said 2 = .ok (.iload_n 2, 1) := by decide +kernel
theorem dX11_said_3 : decode cX11_said 3 = .ok (.iload_n 3, 1) := by decide +kernel
theorem dX11_said_4 : decode cX11_said 4 = .ok (.invokevirtual 416, 3) := by decide +kernel
theorem dX11_said_7 : decode cX11_said 7 = .ok (.ifCond .ne 8, 3) := by decide +kernel
theorem dX11_said_10 : decode cX11_said 10 = .ok (.bipush (-2), 2) := by decide +kernel
theorem dX11_said_12 : decode cX11_said 12 = .ok (.goto 20, 3) := by decide +kernel
theorem dX11_said_15 : decode cX11_said 15 = .ok (.iload_n 1, 1) := by decide +kernel
theorem dX11_said_16 : decode cX11_said 16 = .ok (.iload_n 2, 1) := by decide +kernel
theorem dX11_said_17 : decode cX11_said 17 = .ok (.if_icmp .ne 8, 3) := by decide +kernel
theorem dX11_said_20 : decode cX11_said 20 = .ok (.bipush (-4), 2) := by decide +kernel
theorem dX11_said_22 : decode cX11_said 22 = .ok (.goto 10, 3) := by decide +kernel
theorem dX11_said_25 : decode cX11_said 25 = .ok (.aload_n 0, 1) := by decide +kernel
theorem dX11_said_26 : decode cX11_said 26 = .ok (.iload_n 1, 1) := by decide +kernel
theorem dX11_said_27 : decode cX11_said 27 = .ok (.iload_n 2, 1) := by decide +kernel
theorem dX11_said_28 : decode cX11_said 28 = .ok (.iload_n 3, 1) := by decide +kernel
theorem dX11_said_29 : decode cX11_said 29 = .ok (.invokevirtual 419, 3) := by decide +kernel
theorem dX11_said_32 : decode cX11_said 32 = .ok (.ireturn, 1) := by decide +kernel
noncomputable def f_X11_said (a0 : Nat) (l1 : Int32) (l2 : Int32) (l3 : Int32) (μ : Mm) : Option (Int32 × Mm) :=
  if (mm_K μ a0).1 = 12 then (f_X11_isSign a0 l1 l2 l3 μ).bind fun x4 => if x4 = 0 then some ((-2 : Int32), μ) else if l1 = l2 then some ((-4 : Int32), μ) else (f_X11_saidTo a0 l1 l2 l3 μ).bind fun x29 => some (x29.1, x29.2) else none
abbrev Rn_X11_said (G : Gv) (Q : Option Value → Mm → Prop) (pc : Nat) (lv : List (Nat × Value)) (st : List Value) (μ : Mm) : Prop := Rn G RX11 cX11_said 4 (some .int) "said" (rmd 3 0 0) (Zm G 0 0 Q) 0 0 pc lv st μ
set_option maxRecDepth 100000 in
set_option maxHeartbeats 4000000 in
theorem m_X11_said {G : Gv} (a0 : Nat) (l1 : Int32) (l2 : Int32) (l3 : Int32) (μ : Mm) {r : (Int32 × Mm)} (hx : f_X11_said a0 l1 l2 l3 μ = some r) : Mt G yX11_said cX11_said 4 (some .int) 3 0 0 [.ref a0, .int l1, .int l2, .int l3] μ (fun v μ' => v = some (.int r.1) ∧ μ' = r.2) := by
  refine Mt.of (by decide) (Nat.le_of_ble_eq_true rfl) ?_
  show Rn_X11_said G (fun v μ' => v = some (.int r.1) ∧ μ' = r.2) 0 [(0, .ref a0), (1, .int l1), (2, .int l2), (3, .int l3)] [] μ
  obtain ⟨_, h⟩ := Sat_ifp (show Sat (f_X11_said a0 l1 l2 l3 μ) (fun x => x = r) from ⟨_, hx, rfl⟩)
  refine r_aload_n dX11_said_0 0 rfl ?_
  refine r_iload_n dX11_said_1 1 rfl ?_
  refine r_iload_n dX11_said_2 2 rfl ?_
  refine r_iload_n dX11_said_3 3 rfl ?_
  obtain ⟨x4, e4, h⟩ := Sat_bind h
  refine r_cV (t := 12) [.int l1, .int l2, .int l3] [] (m_X11_isSign a0 l1 l2 l3 μ e4) ck_X11_isSign lk_X11_416 in_X11_isSign se_X11_isSign (kd_of e4) ⟨rfl, by decide, by decide⟩ rfl rfl (Nat.le_of_ble_eq_true rfl) ⟨by decide, by decide⟩ ⟨Nat.zero_le _, Nat.zero_le _⟩ dX11_said_4 ?_
  refine r_if_ne 15 dX11_said_7 (by decide) (fun c7 => ?_) (fun c7 => ?_)
  · have h := Sat_neg c7 h
    refine r_iload_n dX11_said_15 1 rfl ?_
    refine r_iload_n dX11_said_16 2 rfl ?_
    refine r_icmp_ne 25 dX11_said_17 (by decide) (fun c17 => ?_) (fun c17 => ?_)
    · have h := Sat_neg c17 h
      refine r_aload_n dX11_said_25 0 rfl ?_
      refine r_iload_n dX11_said_26 1 rfl ?_
      refine r_iload_n dX11_said_27 2 rfl ?_
      refine r_iload_n dX11_said_28 3 rfl ?_
      obtain ⟨x29, e29, h⟩ := Sat_bind h
      refine r_cV (t := 12) [.int l1, .int l2, .int l3] [] (m_X11_saidTo a0 l1 l2 l3 μ e29) ck_X11_saidTo lk_X11_419 in_X11_saidTo se_X11_saidTo (kd_of e29) ⟨rfl, by decide, by decide⟩ rfl rfl (Nat.le_of_ble_eq_true rfl) ⟨by decide, by decide⟩ ⟨Nat.zero_le _, Nat.zero_le _⟩ dX11_said_29 ?_
      exact r_ireturn rfl (by rw [← Sat_eq h]; exact ⟨rfl, rfl⟩) dX11_said_32
    · have h := Sat_pos c17 h
      refine r_bipush (v := -4) dX11_said_20 (by decide) ?_
      refine r_goto 32 dX11_said_22 (by decide) ?_
      exact r_ireturn rfl (by rw [← Sat_eq h]; exact ⟨rfl, rfl⟩) dX11_said_32
  · have h := Sat_pos c7 h
    refine r_bipush (v := -2) dX11_said_10 (by decide) ?_
    refine r_goto 32 dX11_said_12 (by decide) ?_
    exact r_ireturn rfl (by rw [← Sat_eq h]; exact ⟨rfl, rfl⟩) dX11_said_32
theorem dX11_within_0 : decode cX11_within 0 = .ok (.iload_n 0, 1) := by decide +kernel
theorem dX11_within_1 : decode cX11_within 1 = .ok (.sipush 9999, 3) := by decide +kernel
theorem dX11_within_4 : decode cX11_within 4 = .ok (.if_icmp .le 9, 3) := by decide +kernel
theorem dX11_within_7 : decode cX11_within 7 = .ok (.sipush 9999, 3) := by decide +kernel
theorem dX11_within_10 : decode cX11_within 10 = .ok (.goto 4, 3) := by decide +kernel
theorem dX11_within_13 : decode cX11_within 13 = .ok (.iload_n 0, 1) := by decide +kernel
theorem dX11_within_14 : decode cX11_within 14 = .ok (.ireturn, 1) := by decide +kernel
noncomputable def f_X11_within (l0 : Int32) (μ : Mm) : Option Int32 :=
  if l0 ≤ (9999 : Int32) then some l0 else some (9999 : Int32)
abbrev Rn_X11_within (G : Gv) (Q : Option Value → Mm → Prop) (pc : Nat) (lv : List (Nat × Value)) (st : List Value) (μ : Mm) : Prop := Rn G RX11 cX11_within 1 (some .int) "within" (rmd 0 0 0) (Zm G 0 0 Q) 0 0 pc lv st μ
set_option maxRecDepth 100000 in
set_option maxHeartbeats 4000000 in
theorem m_X11_within {G : Gv} (l0 : Int32) (μ : Mm) {r : Int32} (hx : f_X11_within l0 μ = some r) : Mt G yX11_within cX11_within 1 (some .int) 0 0 0 [.int l0] μ (fun v μ' => v = some (.int r) ∧ μ' = μ) := by
  refine Mt.of (by decide) (Nat.le_of_ble_eq_true rfl) ?_
  show Rn_X11_within G (fun v μ' => v = some (.int r) ∧ μ' = μ) 0 [(0, .int l0)] [] μ
  have h : Sat (f_X11_within l0 μ) (fun x => x = r) := ⟨_, hx, rfl⟩
  refine r_iload_n dX11_within_0 0 rfl ?_
  refine r_sipush (v := 9999) dX11_within_1 (by decide) ?_
  refine r_icmp_le 13 dX11_within_4 (by decide) (fun c4 => ?_) (fun c4 => ?_)
  · have h := Sat_pos c4 h
    refine r_iload_n dX11_within_13 0 rfl ?_
    exact r_ireturn rfl (by rw [← Sat_eq h]; exact ⟨rfl, rfl⟩) dX11_within_14
  · have h := Sat_neg c4 h
    refine r_sipush (v := 9999) dX11_within_7 (by decide) ?_
    refine r_goto 14 dX11_within_10 (by decide) ?_
    exact r_ireturn rfl (by rw [← Sat_eq h]; exact ⟨rfl, rfl⟩) dX11_within_14
theorem dX11_skill_0 : decode cX11_skill 0 = .ok (.aload_n 0, 1) := by decide +kernel
theorem dX11_skill_1 : decode cX11_skill 1 = .ok (.iload_n 1, 1) := by decide +kernel
theorem dX11_skill_2 : decode cX11_skill 2 = .ok (.invokevirtual 309, 3) := by decide +kernel
theorem dX11_skill_5 : decode cX11_skill 5 = .ok (.ifCond .eq 10, 3) := by decide +kernel
theorem dX11_skill_8 : decode cX11_skill 8 = .ok (.iload_n 2, 1) := by decide +kernel
theorem dX11_skill_9 : decode cX11_skill 9 = .ok (.invokestatic 363, 3) := by decide +kernel
theorem dX11_skill_12 : decode cX11_skill 12 = .ok (.ifCond .ne 6, 3) := by decide +kernel
theorem dX11_skill_15 : decode cX11_skill 15 = .ok (.bipush (-2), 2) := by decide +kernel
theorem dX11_skill_17 : decode cX11_skill 17 = .ok (.ireturn, 1) := by decide +kernel
theorem dX11_skill_18 : decode cX11_skill 18 = .ok (.iconst 0, 1) := by decide +kernel
theorem dX11_skill_19 : decode cX11_skill 19 = .ok (.istore_n 3, 1) := by decide +kernel
theorem dX11_skill_20 : decode cX11_skill 20 = .ok (.iload_n 3, 1) := by decide +kernel
theorem dX11_skill_21 : decode cX11_skill 21 = .ok (.bipush 16, 2) := by decide +kernel
theorem dX11_skill_23 : decode cX11_skill 23 = .ok (.if_icmp .ge 16, 3) := by decide +kernel
theorem dX11_skill_26 : decode cX11_skill 26 = .ok (.aload_n 0, 1) := by decide +kernel
theorem dX11_skill_27 : decode cX11_skill 27 = .ok (.getfield 124, 3) := by decide +kernel
theorem dX11_skill_30 : decode cX11_skill 30 = .ok (.iload_n 3, 1) := by decide +kernel
theorem dX11_skill_31 : decode cX11_skill 31 = .ok (.iconst 0, 1) := by decide +kernel
theorem dX11_skill_32 : decode cX11_skill 32 = .ok (.iastore, 1) := by decide +kernel
theorem dX11_skill_33 : decode cX11_skill 33 = .ok (.iinc 3 1, 3) := by decide +kernel
theorem dX11_skill_36 : decode cX11_skill 36 = .ok (.goto (-16), 3) := by decide +kernel
theorem dX11_skill_39 : decode cX11_skill 39 = .ok (.iconst 0, 1) := by decide +kernel
theorem dX11_skill_40 : decode cX11_skill 40 = .ok (.istore_n 3, 1) := by decide +kernel
theorem dX11_skill_41 : decode cX11_skill 41 = .ok (.iload_n 3, 1) := by decide +kernel
theorem dX11_skill_42 : decode cX11_skill 42 = .ok (.iload_n 2, 1) := by decide +kernel
theorem dX11_skill_43 : decode cX11_skill 43 = .ok (.if_icmp .gt 170, 3) := by decide +kernel
theorem dX11_skill_46 : decode cX11_skill 46 = .ok (.iconst 0, 1) := by decide +kernel
theorem dX11_skill_47 : decode cX11_skill 47 = .ok (.istore 4, 2) := by decide +kernel
theorem dX11_skill_49 : decode cX11_skill 49 = .ok (.iload 4, 2) := by decide +kernel
theorem dX11_skill_51 : decode cX11_skill 51 = .ok (.aload_n 0, 1) := by decide +kernel
theorem dX11_skill_52 : decode cX11_skill 52 = .ok (.getfield 17, 3) := by decide +kernel
theorem dX11_skill_55 : decode cX11_skill 55 = .ok (.iconst 0, 1) := by decide +kernel
theorem dX11_skill_56 : decode cX11_skill 56 = .ok (.iaload, 1) := by decide +kernel
theorem dX11_skill_57 : decode cX11_skill 57 = .ok (.if_icmp .ge 37, 3) := by decide +kernel
theorem dX11_skill_60 : decode cX11_skill 60 = .ok (.aload_n 0, 1) := by decide +kernel
theorem dX11_skill_61 : decode cX11_skill 61 = .ok (.getfield 124, 3) := by decide +kernel
theorem dX11_skill_64 : decode cX11_skill 64 = .ok (.bipush 8, 2) := by decide +kernel
theorem dX11_skill_66 : decode cX11_skill 66 = .ok (.iload 4, 2) := by decide +kernel
theorem dX11_skill_68 : decode cX11_skill 68 = .ok (.iadd, 1) := by decide +kernel
theorem dX11_skill_69 : decode cX11_skill 69 = .ok (.aload_n 0, 1) := by decide +kernel
theorem dX11_skill_70 : decode cX11_skill 70 = .ok (.getfield 124, 3) := by decide +kernel
theorem dX11_skill_73 : decode cX11_skill 73 = .ok (.iload 4, 2) := by decide +kernel
theorem dX11_skill_75 : decode cX11_skill 75 = .ok (.iaload, 1) := by decide +kernel
theorem dX11_skill_76 : decode cX11_skill 76 = .ok (.aload_n 0, 1) := by decide +kernel
theorem dX11_skill_77 : decode cX11_skill 77 = .ok (.getfield 70, 3) := by decide +kernel
theorem dX11_skill_80 : decode cX11_skill 80 = .ok (.iload 4, 2) := by decide +kernel
theorem dX11_skill_82 : decode cX11_skill 82 = .ok (.iaload, 1) := by decide +kernel
theorem dX11_skill_83 : decode cX11_skill 83 = .ok (.iadd, 1) := by decide +kernel
theorem dX11_skill_84 : decode cX11_skill 84 = .ok (.invokestatic 423, 3) := by decide +kernel
theorem dX11_skill_87 : decode cX11_skill 87 = .ok (.iastore, 1) := by decide +kernel
theorem dX11_skill_88 : decode cX11_skill 88 = .ok (.iinc 4 1, 3) := by decide +kernel
theorem dX11_skill_91 : decode cX11_skill 91 = .ok (.goto (-42), 3) := by decide +kernel
theorem dX11_skill_94 : decode cX11_skill 94 = .ok (.iconst 0, 1) := by decide +kernel
theorem dX11_skill_95 : decode cX11_skill 95 = .ok (.istore 4, 2) := by decide +kernel
theorem dX11_skill_97 : decode cX11_skill 97 = .ok (.iload 4, 2) := by decide +kernel
theorem dX11_skill_99 : decode cX11_skill 99 = .ok (.aload_n 0, 1) := by decide +kernel
theorem dX11_skill_100 : decode cX11_skill 100 = .ok (.getfield 17, 3) := by decide +kernel
theorem dX11_skill_103 : decode cX11_skill 103 = .ok (.iconst 0, 1) := by decide +kernel
theorem dX11_skill_104 : decode cX11_skill 104 = .ok (.iaload, 1) := by decide +kernel
theorem dX11_skill_105 : decode cX11_skill 105 = .ok (.if_icmp .ge 102, 3) := by decide +kernel
theorem dX11_skill_108 : decode cX11_skill 108 = .ok (.aload_n 0, 1) := by decide +kernel
theorem dX11_skill_109 : decode cX11_skill 109 = .ok (.getfield 73, 3) := by decide +kernel
theorem dX11_skill_112 : decode cX11_skill 112 = .ok (.aload_n 0, 1) := by decide +kernel
theorem dX11_skill_113 : decode cX11_skill 113 = .ok (.getfield 241, 3) := by decide +kernel
theorem dX11_skill_116 : decode cX11_skill 116 = .ok (.laload, 1) := by decide +kernel
theorem dX11_skill_117 : decode cX11_skill 117 = .ok (.iload 4, 2) := by decide +kernel
theorem dX11_skill_119 : decode cX11_skill 119 = .ok (.invokestatic 320, 3) := by decide +kernel
theorem dX11_skill_122 : decode cX11_skill 122 = .ok (.istore 5, 2) := by decide +kernel
theorem dX11_skill_124 : decode cX11_skill 124 = .ok (.iload 5, 2) := by decide +kernel
theorem dX11_skill_126 : decode cX11_skill 126 = .ok (.iconst (-1), 1) := by decide +kernel
theorem dX11_skill_127 : decode cX11_skill 127 = .ok (.if_icmp .eq 13, 3) := by decide +kernel
theorem dX11_skill_130 : decode cX11_skill 130 = .ok (.aload_n 0, 1) := by decide +kernel
theorem dX11_skill_131 : decode cX11_skill 131 = .ok (.iload 5, 2) := by decide +kernel
theorem dX11_skill_133 : decode cX11_skill 133 = .ok (.iload_n 3, 1) := by decide +kernel
theorem dX11_skill_134 : decode cX11_skill 134 = .ok (.invokevirtual 350, 3) := by decide +kernel
theorem dX11_skill_137 : decode cX11_skill 137 = .ok (.ifCond .eq 7, 3) := by decide +kernel
theorem dX11_skill_140 : decode cX11_skill 140 = .ok (.iconst 0, 1) := by decide +kernel
theorem dX11_skill_141 : decode cX11_skill 141 = .ok (.goto 24, 3) := by decide +kernel
theorem dX11_skill_144 : decode cX11_skill 144 = .ok (.aload_n 0, 1) := by decide +kernel
theorem dX11_skill_145 : decode cX11_skill 145 = .ok (.getfield 124, 3) := by decide +kernel
theorem dX11_skill_148 : decode cX11_skill 148 = .ok (.bipush 8, 2) := by decide +kernel
theorem dX11_skill_150 : decode cX11_skill 150 = .ok (.iload 5, 2) := by decide +kernel
theorem dX11_skill_152 : decode cX11_skill 152 = .ok (.iadd, 1) := by decide +kernel
theorem dX11_skill_153 : decode cX11_skill 153 = .ok (.iaload, 1) := by decide +kernel
theorem dX11_skill_154 : decode cX11_skill 154 = .ok (.aload_n 0, 1) := by decide +kernel
theorem dX11_skill_155 : decode cX11_skill 155 = .ok (.getfield 124, 3) := by decide +kernel
theorem dX11_skill_158 : decode cX11_skill 158 = .ok (.bipush 8, 2) := by decide +kernel
theorem dX11_skill_160 : decode cX11_skill 160 = .ok (.iload 4, 2) := by decide +kernel
theorem dX11_skill_162 : decode cX11_skill 162 = .ok (.iadd, 1) := by decide +kernel
theorem dX11_skill_163 : decode cX11_skill 163 = .ok (.iaload, 1) := by decide +kernel
theorem dX11_skill_164 : decode cX11_skill 164 = .ok (.isub, 1) := by decide +kernel
theorem dX11_skill_165 : decode cX11_skill 165 = .ok (.istore 6, 2) := by decide +kernel
theorem dX11_skill_167 : decode cX11_skill 167 = .ok (.aload_n 0, 1) := by decide +kernel
theorem dX11_skill_168 : decode cX11_skill 168 = .ok (.getfield 124, 3) := by decide +kernel
theorem dX11_skill_171 : decode cX11_skill 171 = .ok (.iload 4, 2) := by decide +kernel
theorem dX11_skill_173 : decode cX11_skill 173 = .ok (.aload_n 0, 1) := by decide +kernel
theorem dX11_skill_174 : decode cX11_skill 174 = .ok (.getfield 124, 3) := by decide +kernel
theorem dX11_skill_177 : decode cX11_skill 177 = .ok (.bipush 8, 2) := by decide +kernel
theorem dX11_skill_179 : decode cX11_skill 179 = .ok (.iload 4, 2) := by decide +kernel
theorem dX11_skill_181 : decode cX11_skill 181 = .ok (.iadd, 1) := by decide +kernel
theorem dX11_skill_182 : decode cX11_skill 182 = .ok (.iaload, 1) := by decide +kernel
theorem dX11_skill_183 : decode cX11_skill 183 = .ok (.iload 6, 2) := by decide +kernel
theorem dX11_skill_185 : decode cX11_skill 185 = .ok (.ifCond .le 10, 3) := by decide +kernel
theorem dX11_skill_188 : decode cX11_skill 188 = .ok (.iload 6, 2) := by decide +kernel
theorem dX11_skill_190 : decode cX11_skill 190 = .ok (.iconst 4, 1) := by decide +kernel
theorem dX11_skill_191 : decode cX11_skill 191 = .ok (.idiv, 1) := by decide +kernel
theorem dX11_skill_192 : decode cX11_skill 192 = .ok (.goto 4, 3) := by decide +kernel
theorem dX11_skill_195 : decode cX11_skill 195 = .ok (.iconst 0, 1) := by decide +kernel
theorem dX11_skill_196 : decode cX11_skill 196 = .ok (.iadd, 1) := by decide +kernel
theorem dX11_skill_197 : decode cX11_skill 197 = .ok (.invokestatic 423, 3) := by decide +kernel
theorem dX11_skill_200 : decode cX11_skill 200 = .ok (.iastore, 1) := by decide +kernel
theorem dX11_skill_201 : decode cX11_skill 201 = .ok (.iinc 4 1, 3) := by decide +kernel
theorem dX11_skill_204 : decode cX11_skill 204 = .ok (.goto (-107), 3) := by decide +kernel
theorem dX11_skill_207 : decode cX11_skill 207 = .ok (.iinc 3 1, 3) := by decide +kernel
theorem dX11_skill_210 : decode cX11_skill 210 = .ok (.goto (-169), 3) := by decide +kernel
theorem dX11_skill_213 : decode cX11_skill 213 = .ok (.aload_n 0, 1) := by decide +kernel
theorem dX11_skill_214 : decode cX11_skill 214 = .ok (.getfield 124, 3) := by decide +kernel
theorem dX11_skill_217 : decode cX11_skill 217 = .ok (.iload_n 1, 1) := by decide +kernel
theorem dX11_skill_218 : decode cX11_skill 218 = .ok (.iaload, 1) := by decide +kernel
theorem dX11_skill_219 : decode cX11_skill 219 = .ok (.ireturn, 1) := by decide +kernel
noncomputable def f_X11_skill_J213 (a0 : Nat) (l1 : Int32) (μ : Mm) : Option (Int32 × Mm) :=
  (gf_P 12 61 a0 μ).bind fun x214 => (ga_I x214 l1 μ).bind fun x218 => some (x218, μ)
noncomputable def f_X11_skill_J207 (a0 : Nat) (l1 : Int32) (l2 : Int32) (l3 : Int32) (μ : Mm) : Option ((Int32 × Mm) ⊕ (Mm)) :=
  (some (l3 + (1 : Int32))).bind fun v207 => some (.inl (v207, μ))
noncomputable def f_X11_skill_J196 (a0 : Nat) (l1 : Int32) (l2 : Int32) (l3 : Int32) (l4 : Int32) (k0 : Nat) (k1 : Int32) (k2 : Int32) (k3 : Int32) (μ : Mm) : Option ((Int32 × Mm) ⊕ (Mm)) :=
  (f_X11_within (k2 + k3) μ).bind fun x197 => (pa_I k0 k1 x197 μ).bind fun μ200 => (some (l4 + (1 : Int32))).bind fun v201 => some (.inl (v201, μ200))
noncomputable def f_X11_skill_J165 (a0 : Nat) (l1 : Int32) (l2 : Int32) (l3 : Int32) (l4 : Int32) (k0 : Int32) (μ : Mm) : Option ((Int32 × Mm) ⊕ (Mm)) :=
  (gf_P 12 61 a0 μ).bind fun x168 => (gf_P 12 61 a0 μ).bind fun x174 => (ga_I x174 ((8 : Int32) + l4) μ).bind fun x182 => if k0 ≤ 0 then f_X11_skill_J196 a0 l1 l2 l3 l4 x168 l4 x182 (0 : Int32) μ else f_X11_skill_J196 a0 l1 l2 l3 l4 x168 l4 x182 (k0 / (4 : Int32)) μ
noncomputable def f_X11_skill_J140 (a0 : Nat) (l1 : Int32) (l2 : Int32) (l3 : Int32) (l4 : Int32) (μ : Mm) : Option ((Int32 × Mm) ⊕ (Mm)) :=
  f_X11_skill_J165 a0 l1 l2 l3 l4 (0 : Int32) μ
noncomputable def f_X11_skill_L97 (a0 : Nat) (l1 : Int32) (l2 : Int32) (l3 : Int32) (s97 : Int32 × Mm) : Option ((Int32 × Mm) ⊕ (Mm)) :=
  (gf_P 12 12 a0 s97.2).bind fun x100 => (ga_I x100 (0 : Int32) s97.2).bind fun x104 => if x104 ≤ s97.1 then some (.inr s97.2) else (gf_P 12 34 a0 s97.2).bind fun x109 => (gf_I 12 33 a0 s97.2).bind fun x113 => (ga_L x109 x113 s97.2).bind fun x116 => (f_X11_dreamtBy x116 s97.1 s97.2).bind fun x119 => if x119 = (-1 : Int32) then f_X11_skill_J140 a0 l1 l2 l3 s97.1 s97.2 else (f_X11_isDull a0 x119 l3 s97.2).bind fun x134 => if x134 = 0 then (gf_P 12 61 a0 s97.2).bind fun x145 => (ga_I x145 ((8 : Int32) + x119) s97.2).bind fun x153 => (gf_P 12 61 a0 s97.2).bind fun x155 => (ga_I x155 ((8 : Int32) + s97.1) s97.2).bind fun x163 => f_X11_skill_J165 a0 l1 l2 l3 s97.1 (x153 - x163) s97.2 else f_X11_skill_J140 a0 l1 l2 l3 s97.1 s97.2
noncomputable def f_X11_skill_J94 (a0 : Nat) (l1 : Int32) (l2 : Int32) (l3 : Int32) (μ : Mm) : Option ((Int32 × Mm) ⊕ (Mm)) :=
  (whl (f_X11_skill_L97 a0 l1 l2 l3) ((0 : Int32), μ)).bind (fun b97 => f_X11_skill_J207 a0 l1 l2 l3 b97)
noncomputable def f_X11_skill_L49 (a0 : Nat) (l1 : Int32) (l2 : Int32) (l3 : Int32) (s49 : Int32 × Mm) : Option ((Int32 × Mm) ⊕ (Mm)) :=
  (gf_P 12 12 a0 s49.2).bind fun x52 => (ga_I x52 (0 : Int32) s49.2).bind fun x56 => if x56 ≤ s49.1 then some (.inr s49.2) else (gf_P 12 61 a0 s49.2).bind fun x61 => (gf_P 12 61 a0 s49.2).bind fun x70 => (ga_I x70 s49.1 s49.2).bind fun x75 => (gf_P 12 29 a0 s49.2).bind fun x77 => (ga_I x77 s49.1 s49.2).bind fun x82 => (f_X11_within (x75 + x82) s49.2).bind fun x84 => (pa_I x61 ((8 : Int32) + s49.1) x84 s49.2).bind fun μ87 => (some (s49.1 + (1 : Int32))).bind fun v88 => some (.inl (v88, μ87))
noncomputable def f_X11_skill_L41 (a0 : Nat) (l1 : Int32) (l2 : Int32) (s41 : Int32 × Mm) : Option ((Int32 × Mm) ⊕ (Mm)) :=
  if l2 < s41.1 then some (.inr s41.2) else (whl (f_X11_skill_L49 a0 l1 l2 s41.1) ((0 : Int32), s41.2)).bind (fun b49 => f_X11_skill_J94 a0 l1 l2 s41.1 b49)
noncomputable def f_X11_skill_J39 (a0 : Nat) (l1 : Int32) (l2 : Int32) (μ : Mm) : Option (Int32 × Mm) :=
  (whl (f_X11_skill_L41 a0 l1 l2) ((0 : Int32), μ)).bind (fun b41 => f_X11_skill_J213 a0 l1 b41)
noncomputable def f_X11_skill_L20 (a0 : Nat) (l1 : Int32) (l2 : Int32) (s20 : Int32 × Mm) : Option ((Int32 × Mm) ⊕ (Mm)) :=
  if (16 : Int32) ≤ s20.1 then some (.inr s20.2) else (gf_P 12 61 a0 s20.2).bind fun x27 => (pa_I x27 s20.1 (0 : Int32) s20.2).bind fun μ32 => (some (s20.1 + (1 : Int32))).bind fun v33 => some (.inl (v33, μ32))
noncomputable def f_X11_skill (a0 : Nat) (l1 : Int32) (l2 : Int32) (μ : Mm) : Option (Int32 × Mm) :=
  if (mm_K μ a0).1 = 12 then (f_X11_isPerson a0 l1 μ).bind fun x2 => if x2 = 0 then some ((-2 : Int32), μ) else (f_X11_isDay l2 μ).bind fun x9 => if x9 = 0 then some ((-2 : Int32), μ) else (whl (f_X11_skill_L20 a0 l1 l2) ((0 : Int32), μ)).bind (fun b20 => f_X11_skill_J39 a0 l1 l2 b20) else none
abbrev Rn_X11_skill (G : Gv) (Q : Option Value → Mm → Prop) (pc : Nat) (lv : List (Nat × Value)) (st : List Value) (μ : Mm) : Prop := Rn G RX11 cX11_skill 7 (some .int) "skill" (rmd 2 0 0) (Zm G 0 0 Q) 0 0 pc lv st μ
set_option maxRecDepth 100000 in
set_option maxHeartbeats 4000000 in
theorem m_X11_skill {G : Gv} (a0 : Nat) (l1 : Int32) (l2 : Int32) (μ : Mm) {r : (Int32 × Mm)} (hx : f_X11_skill a0 l1 l2 μ = some r) : Mt G yX11_skill cX11_skill 7 (some .int) 2 0 0 [.ref a0, .int l1, .int l2] μ (fun v μ' => v = some (.int r.1) ∧ μ' = r.2) := by
  refine Mt.of (by decide) (Nat.le_of_ble_eq_true rfl) ?_
  show Rn_X11_skill G (fun v μ' => v = some (.int r.1) ∧ μ' = r.2) 0 [(0, .ref a0), (1, .int l1), (2, .int l2)] [] μ
  obtain ⟨_, h⟩ := Sat_ifp (show Sat (f_X11_skill a0 l1 l2 μ) (fun x => x = r) from ⟨_, hx, rfl⟩)
  have J213 : ∀ (a0_213 : Nat) (l1_213 : Int32) (μ_213 : Mm), Sat (f_X11_skill_J213 a0_213 l1_213 μ_213) (fun x => x = r) → Rn_X11_skill G (fun v μ' => v = some (.int r.1) ∧ μ' = r.2) 213 [(0, .ref a0_213), (1, .int l1_213)] [] μ_213 := by
    intro a0_213 l1_213 μ_213 h
    refine r_aload_n dX11_skill_213 0 rfl ?_
    obtain ⟨x214, e214, h⟩ := Sat_bind h
    refine r_getP fk_X11_124 rfl e214 dX11_skill_214 ?_
    refine r_iload_n dX11_skill_217 1 rfl ?_
    obtain ⟨x218, e218, h⟩ := Sat_bind h
    refine r_iaload e218 dX11_skill_218 ?_
    exact r_ireturn rfl (by rw [← Sat_eq h]; exact ⟨rfl, rfl⟩) dX11_skill_219
  have J39 : ∀ (a0_39 : Nat) (l1_39 : Int32) (l2_39 : Int32) (μ_39 : Mm), Sat (f_X11_skill_J39 a0_39 l1_39 l2_39 μ_39) (fun x => x = r) → Rn_X11_skill G (fun v μ' => v = some (.int r.1) ∧ μ' = r.2) 39 [(0, .ref a0_39), (1, .int l1_39), (2, .int l2_39)] [] μ_39 := by
    intro a0_39 l1_39 l2_39 μ_39 h
    refine r_iconst (v := 0) dX11_skill_39 (by decide) ?_
    refine r_istore_n (lv' := [(3, .int (0 : Int32)), (0, .ref a0_39), (1, .int l1_39), (2, .int l2_39)]) dX11_skill_40 rfl (by decide) rfl ?_
    refine r_sub (lv' := [(0, .ref a0_39), (1, .int l1_39), (2, .int l2_39), (3, .int (0 : Int32))]) [1, 2, 3, 0] rfl ?_
    refine whl_K (s0 := (((0 : Int32), μ_39) : Int32 × Mm)) (RR := fun (s41 : Int32 × Mm) => Rn_X11_skill G (fun v μ' => v = some (.int r.1) ∧ μ' = r.2) 41 [(0, .ref a0_39), (1, .int l1_39), (2, .int l2_39), (3, .int s41.1)] [] s41.2) ?_ (Sat_bindK h)
    intro s41 K41 hI41 hX41 h
    have J207 : ∀ (l3_207 : Int32) (μ_207 : Mm), Sat (f_X11_skill_J207 a0_39 l1_39 l2_39 l3_207 μ_207) K41 → Rn_X11_skill G (fun v μ' => v = some (.int r.1) ∧ μ' = r.2) 207 [(0, .ref a0_39), (1, .int l1_39), (2, .int l2_39), (3, .int l3_207)] [] μ_207 := by
      intro l3_207 μ_207 h
      obtain ⟨v207, e207, h⟩ := Sat_bind h
      refine r_iinc (j := 3) (v := v207) (lv' := [(3, .int v207), (0, .ref a0_39), (1, .int l1_39), (2, .int l2_39)]) dX11_skill_207 rfl (iinc_v e207 (by decide)) (by decide) rfl ?_
      refine r_goto 41 dX11_skill_210 (by decide) ?_
      exact r_sub [1, 2, 3, 0] rfl (hI41 _ (Sat_some h))
    have J94 : ∀ (l3_94 : Int32) (μ_94 : Mm), Sat (f_X11_skill_J94 a0_39 l1_39 l2_39 l3_94 μ_94) K41 → Rn_X11_skill G (fun v μ' => v = some (.int r.1) ∧ μ' = r.2) 94 [(0, .ref a0_39), (1, .int l1_39), (2, .int l2_39), (3, .int l3_94)] [] μ_94 := by
      intro l3_94 μ_94 h
      refine r_iconst (v := 0) dX11_skill_94 (by decide) ?_
      refine r_istore (lv' := [(4, .int (0 : Int32)), (0, .ref a0_39), (1, .int l1_39), (2, .int l2_39), (3, .int l3_94)]) dX11_skill_95 (by decide) rfl ?_
      refine r_sub (lv' := [(0, .ref a0_39), (1, .int l1_39), (2, .int l2_39), (3, .int l3_94), (4, .int (0 : Int32))]) [1, 2, 3, 4, 0] rfl ?_
      refine whl_K (s0 := (((0 : Int32), μ_94) : Int32 × Mm)) (RR := fun (s97 : Int32 × Mm) => Rn_X11_skill G (fun v μ' => v = some (.int r.1) ∧ μ' = r.2) 97 [(0, .ref a0_39), (1, .int l1_39), (2, .int l2_39), (3, .int l3_94), (4, .int s97.1)] [] s97.2) ?_ (Sat_bindK h)
      intro s97 K97 hI97 hX97 h
      have J196 : ∀ (l4_196 : Int32) (k0_196 : Nat) (k1_196 : Int32) (k2_196 : Int32) (k3_196 : Int32) (μ_196 : Mm), Sat (f_X11_skill_J196 a0_39 l1_39 l2_39 l3_94 l4_196 k0_196 k1_196 k2_196 k3_196 μ_196) K97 → Rn_X11_skill G (fun v μ' => v = some (.int r.1) ∧ μ' = r.2) 196 [(0, .ref a0_39), (1, .int l1_39), (2, .int l2_39), (3, .int l3_94), (4, .int l4_196)] [.int k3_196, .int k2_196, .int k1_196, .ref k0_196] μ_196 := by
        intro l4_196 k0_196 k1_196 k2_196 k3_196 μ_196 h
        refine r_iadd dX11_skill_196 ?_
        obtain ⟨x197, e197, h⟩ := Sat_bind h
        refine r_cS [.int (k2_196 + k3_196)] [.int k1_196, .ref k0_196] (m_X11_within (k2_196 + k3_196) μ_196 e197) ck_X11_within lk_X11_423 st_X11_within rfl rfl (Nat.le_of_ble_eq_true rfl) ⟨by decide, by decide⟩ ⟨Nat.zero_le _, Nat.zero_le _⟩ dX11_skill_197 ?_
        obtain ⟨μ200, e200, h⟩ := Sat_bind h
        refine r_iastore e200 dX11_skill_200 ?_
        obtain ⟨v201, e201, h⟩ := Sat_bind h
        refine r_iinc (j := 4) (v := v201) (lv' := [(4, .int v201), (0, .ref a0_39), (1, .int l1_39), (2, .int l2_39), (3, .int l3_94)]) dX11_skill_201 rfl (iinc_v e201 (by decide)) (by decide) rfl ?_
        refine r_goto 97 dX11_skill_204 (by decide) ?_
        exact r_sub [1, 2, 3, 4, 0] rfl (hI97 _ (Sat_some h))
      have J165 : ∀ (l4_165 : Int32) (k0_165 : Int32) (μ_165 : Mm), Sat (f_X11_skill_J165 a0_39 l1_39 l2_39 l3_94 l4_165 k0_165 μ_165) K97 → Rn_X11_skill G (fun v μ' => v = some (.int r.1) ∧ μ' = r.2) 165 [(0, .ref a0_39), (1, .int l1_39), (2, .int l2_39), (3, .int l3_94), (4, .int l4_165)] [.int k0_165] μ_165 := by
        intro l4_165 k0_165 μ_165 h
        refine r_istore (lv' := [(6, .int k0_165), (0, .ref a0_39), (1, .int l1_39), (2, .int l2_39), (3, .int l3_94), (4, .int l4_165)]) dX11_skill_165 (by decide) rfl ?_
        refine r_aload_n dX11_skill_167 1 rfl ?_
        obtain ⟨x168, e168, h⟩ := Sat_bind h
        refine r_getP fk_X11_124 rfl e168 dX11_skill_168 ?_
        refine r_iload dX11_skill_171 5 rfl ?_
        refine r_aload_n dX11_skill_173 1 rfl ?_
        obtain ⟨x174, e174, h⟩ := Sat_bind h
        refine r_getP fk_X11_124 rfl e174 dX11_skill_174 ?_
        refine r_bipush (v := 8) dX11_skill_177 (by decide) ?_
        refine r_iload dX11_skill_179 5 rfl ?_
        refine r_iadd dX11_skill_181 ?_
        obtain ⟨x182, e182, h⟩ := Sat_bind h
        refine r_iaload e182 dX11_skill_182 ?_
        refine r_iload dX11_skill_183 0 rfl ?_
        refine r_if_le 195 dX11_skill_185 (by decide) (fun c185 => ?_) (fun c185 => ?_)
        · have h := Sat_pos c185 h
          refine r_iconst (v := 0) dX11_skill_195 (by decide) ?_
          exact r_sub [1, 2, 3, 4, 5] rfl (J196 l4_165 x168 l4_165 x182 (0 : Int32) μ_165 h)
        · have h := Sat_neg c185 h
          refine r_iload dX11_skill_188 0 rfl ?_
          refine r_iconst (v := 4) dX11_skill_190 (by decide) ?_
          refine r_idiv dX11_skill_191 (by decide) ?_
          refine r_goto 196 dX11_skill_192 (by decide) ?_
          exact r_sub [1, 2, 3, 4, 5] rfl (J196 l4_165 x168 l4_165 x182 (k0_165 / (4 : Int32)) μ_165 h)
      have J140 : ∀ (l4_140 : Int32) (μ_140 : Mm), Sat (f_X11_skill_J140 a0_39 l1_39 l2_39 l3_94 l4_140 μ_140) K97 → Rn_X11_skill G (fun v μ' => v = some (.int r.1) ∧ μ' = r.2) 140 [(0, .ref a0_39), (1, .int l1_39), (2, .int l2_39), (3, .int l3_94), (4, .int l4_140)] [] μ_140 := by
        intro l4_140 μ_140 h
        refine r_iconst (v := 0) dX11_skill_140 (by decide) ?_
        refine r_goto 165 dX11_skill_141 (by decide) ?_
        exact r_sub [0, 1, 2, 3, 4] rfl (J165 l4_140 (0 : Int32) μ_140 h)
      refine r_iload dX11_skill_97 4 rfl ?_
      refine r_aload_n dX11_skill_99 0 rfl ?_
      obtain ⟨x100, e100, h⟩ := Sat_bind h
      refine r_getP fk_X11_17 rfl e100 dX11_skill_100 ?_
      refine r_iconst (v := 0) dX11_skill_103 (by decide) ?_
      obtain ⟨x104, e104, h⟩ := Sat_bind h
      refine r_iaload e104 dX11_skill_104 ?_
      refine r_icmp_ge 207 dX11_skill_105 (by decide) (fun c105 => ?_) (fun c105 => ?_)
      · have h := Sat_pos c105 h
        have h := hX97 _ (Sat_some h)
        exact r_sub [0, 1, 2, 3] rfl (J207 l3_94 s97.2 h)
      · have h := Sat_neg c105 h
        refine r_aload_n dX11_skill_108 0 rfl ?_
        obtain ⟨x109, e109, h⟩ := Sat_bind h
        refine r_getP fk_X11_73 rfl e109 dX11_skill_109 ?_
        refine r_aload_n dX11_skill_112 0 rfl ?_
        obtain ⟨x113, e113, h⟩ := Sat_bind h
        refine r_getI fk_X11_241 rfl e113 dX11_skill_113 ?_
        obtain ⟨x116, e116, h⟩ := Sat_bind h
        refine r_laload e116 dX11_skill_116 ?_
        refine r_iload dX11_skill_117 4 rfl ?_
        obtain ⟨x119, e119, h⟩ := Sat_bind h
        refine r_cS [.long x116, .int s97.1] [] (m_X11_dreamtBy x116 s97.1 s97.2 e119) ck_X11_dreamtBy lk_X11_320 st_X11_dreamtBy rfl rfl (Nat.le_of_ble_eq_true rfl) ⟨by decide, by decide⟩ ⟨Nat.zero_le _, Nat.zero_le _⟩ dX11_skill_119 ?_
        refine r_istore (lv' := [(5, .int x119), (0, .ref a0_39), (1, .int l1_39), (2, .int l2_39), (3, .int l3_94), (4, .int s97.1)]) dX11_skill_122 (by decide) rfl ?_
        refine r_iload dX11_skill_124 0 rfl ?_
        refine r_iconst (v := -1) dX11_skill_126 (by decide) ?_
        refine r_icmp_eq 140 dX11_skill_127 (by decide) (fun c127 => ?_) (fun c127 => ?_)
        · have h := Sat_pos c127 h
          exact r_sub [1, 2, 3, 4, 5] rfl (J140 s97.1 s97.2 h)
        · have h := Sat_neg c127 h
          refine r_aload_n dX11_skill_130 1 rfl ?_
          refine r_iload dX11_skill_131 0 rfl ?_
          refine r_iload_n dX11_skill_133 4 rfl ?_
          obtain ⟨x134, e134, h⟩ := Sat_bind h
          refine r_cV (t := 12) [.int x119, .int l3_94] [] (m_X11_isDull a0_39 x119 l3_94 s97.2 e134) ck_X11_isDull lk_X11_350 in_X11_isDull se_X11_isDull (kd_of e134) ⟨rfl, by decide, by decide⟩ rfl rfl (Nat.le_of_ble_eq_true rfl) ⟨by decide, by decide⟩ ⟨Nat.zero_le _, Nat.zero_le _⟩ dX11_skill_134 ?_
          refine r_if_eq 144 dX11_skill_137 (by decide) (fun c137 => ?_) (fun c137 => ?_)
          · have h := Sat_pos c137 h
            refine r_aload_n dX11_skill_144 1 rfl ?_
            obtain ⟨x145, e145, h⟩ := Sat_bind h
            refine r_getP fk_X11_124 rfl e145 dX11_skill_145 ?_
            refine r_bipush (v := 8) dX11_skill_148 (by decide) ?_
            refine r_iload dX11_skill_150 0 rfl ?_
            refine r_iadd dX11_skill_152 ?_
            obtain ⟨x153, e153, h⟩ := Sat_bind h
            refine r_iaload e153 dX11_skill_153 ?_
            refine r_aload_n dX11_skill_154 1 rfl ?_
            obtain ⟨x155, e155, h⟩ := Sat_bind h
            refine r_getP fk_X11_124 rfl e155 dX11_skill_155 ?_
            refine r_bipush (v := 8) dX11_skill_158 (by decide) ?_
            refine r_iload dX11_skill_160 5 rfl ?_
            refine r_iadd dX11_skill_162 ?_
            obtain ⟨x163, e163, h⟩ := Sat_bind h
            refine r_iaload e163 dX11_skill_163 ?_
            refine r_isub dX11_skill_164 ?_
            exact r_sub [1, 2, 3, 4, 5] rfl (J165 s97.1 (x153 - x163) s97.2 h)
          · have h := Sat_neg c137 h
            exact r_sub [1, 2, 3, 4, 5] rfl (J140 s97.1 s97.2 h)
    refine r_iload_n dX11_skill_41 3 rfl ?_
    refine r_iload_n dX11_skill_42 2 rfl ?_
    refine r_icmp_gt 213 dX11_skill_43 (by decide) (fun c43 => ?_) (fun c43 => ?_)
    · have h := Sat_pos c43 h
      have h := hX41 _ (Sat_some h)
      exact r_sub [0, 1] rfl (J213 a0_39 l1_39 s41.2 h)
    · have h := Sat_neg c43 h
      refine r_iconst (v := 0) dX11_skill_46 (by decide) ?_
      refine r_istore (lv' := [(4, .int (0 : Int32)), (0, .ref a0_39), (1, .int l1_39), (2, .int l2_39), (3, .int s41.1)]) dX11_skill_47 (by decide) rfl ?_
      refine r_sub (lv' := [(0, .ref a0_39), (1, .int l1_39), (2, .int l2_39), (3, .int s41.1), (4, .int (0 : Int32))]) [1, 2, 3, 4, 0] rfl ?_
      refine whl_K (s0 := (((0 : Int32), s41.2) : Int32 × Mm)) (RR := fun (s49 : Int32 × Mm) => Rn_X11_skill G (fun v μ' => v = some (.int r.1) ∧ μ' = r.2) 49 [(0, .ref a0_39), (1, .int l1_39), (2, .int l2_39), (3, .int s41.1), (4, .int s49.1)] [] s49.2) ?_ (Sat_bindK h)
      intro s49 K49 hI49 hX49 h
      refine r_iload dX11_skill_49 4 rfl ?_
      refine r_aload_n dX11_skill_51 0 rfl ?_
      obtain ⟨x52, e52, h⟩ := Sat_bind h
      refine r_getP fk_X11_17 rfl e52 dX11_skill_52 ?_
      refine r_iconst (v := 0) dX11_skill_55 (by decide) ?_
      obtain ⟨x56, e56, h⟩ := Sat_bind h
      refine r_iaload e56 dX11_skill_56 ?_
      refine r_icmp_ge 94 dX11_skill_57 (by decide) (fun c57 => ?_) (fun c57 => ?_)
      · have h := Sat_pos c57 h
        have h := hX49 _ (Sat_some h)
        exact r_sub [0, 1, 2, 3] rfl (J94 s41.1 s49.2 h)
      · have h := Sat_neg c57 h
        refine r_aload_n dX11_skill_60 0 rfl ?_
        obtain ⟨x61, e61, h⟩ := Sat_bind h
        refine r_getP fk_X11_124 rfl e61 dX11_skill_61 ?_
        refine r_bipush (v := 8) dX11_skill_64 (by decide) ?_
        refine r_iload dX11_skill_66 4 rfl ?_
        refine r_iadd dX11_skill_68 ?_
        refine r_aload_n dX11_skill_69 0 rfl ?_
        obtain ⟨x70, e70, h⟩ := Sat_bind h
        refine r_getP fk_X11_124 rfl e70 dX11_skill_70 ?_
        refine r_iload dX11_skill_73 4 rfl ?_
        obtain ⟨x75, e75, h⟩ := Sat_bind h
        refine r_iaload e75 dX11_skill_75 ?_
        refine r_aload_n dX11_skill_76 0 rfl ?_
        obtain ⟨x77, e77, h⟩ := Sat_bind h
        refine r_getP fk_X11_70 rfl e77 dX11_skill_77 ?_
        refine r_iload dX11_skill_80 4 rfl ?_
        obtain ⟨x82, e82, h⟩ := Sat_bind h
        refine r_iaload e82 dX11_skill_82 ?_
        refine r_iadd dX11_skill_83 ?_
        obtain ⟨x84, e84, h⟩ := Sat_bind h
        refine r_cS [.int (x75 + x82)] [.int ((8 : Int32) + s49.1), .ref x61] (m_X11_within (x75 + x82) s49.2 e84) ck_X11_within lk_X11_423 st_X11_within rfl rfl (Nat.le_of_ble_eq_true rfl) ⟨by decide, by decide⟩ ⟨Nat.zero_le _, Nat.zero_le _⟩ dX11_skill_84 ?_
        obtain ⟨μ87, e87, h⟩ := Sat_bind h
        refine r_iastore e87 dX11_skill_87 ?_
        obtain ⟨v88, e88, h⟩ := Sat_bind h
        refine r_iinc (j := 4) (v := v88) (lv' := [(4, .int v88), (0, .ref a0_39), (1, .int l1_39), (2, .int l2_39), (3, .int s41.1)]) dX11_skill_88 rfl (iinc_v e88 (by decide)) (by decide) rfl ?_
        refine r_goto 49 dX11_skill_91 (by decide) ?_
        exact r_sub [1, 2, 3, 4, 0] rfl (hI49 _ (Sat_some h))
  refine r_aload_n dX11_skill_0 0 rfl ?_
  refine r_iload_n dX11_skill_1 1 rfl ?_
  obtain ⟨x2, e2, h⟩ := Sat_bind h
  refine r_cV (t := 12) [.int l1] [] (m_X11_isPerson a0 l1 μ e2) ck_X11_isPerson lk_X11_309 in_X11_isPerson se_X11_isPerson (kd_of e2) ⟨rfl, by decide, by decide⟩ rfl rfl (Nat.le_of_ble_eq_true rfl) ⟨by decide, by decide⟩ ⟨Nat.zero_le _, Nat.zero_le _⟩ dX11_skill_2 ?_
  refine r_if_eq 15 dX11_skill_5 (by decide) (fun c5 => ?_) (fun c5 => ?_)
  · have h := Sat_pos c5 h
    refine r_bipush (v := -2) dX11_skill_15 (by decide) ?_
    exact r_ireturn rfl (by rw [← Sat_eq h]; exact ⟨rfl, rfl⟩) dX11_skill_17
  · have h := Sat_neg c5 h
    refine r_iload_n dX11_skill_8 2 rfl ?_
    obtain ⟨x9, e9, h⟩ := Sat_bind h
    refine r_cS [.int l2] [] (m_X11_isDay l2 μ e9) ck_X11_isDay lk_X11_363 st_X11_isDay rfl rfl (Nat.le_of_ble_eq_true rfl) ⟨by decide, by decide⟩ ⟨Nat.zero_le _, Nat.zero_le _⟩ dX11_skill_9 ?_
    refine r_if_ne 18 dX11_skill_12 (by decide) (fun c12 => ?_) (fun c12 => ?_)
    · have h := Sat_neg c12 h
      refine r_iconst (v := 0) dX11_skill_18 (by decide) ?_
      refine r_istore_n (lv' := [(3, .int (0 : Int32)), (0, .ref a0), (1, .int l1), (2, .int l2)]) dX11_skill_19 rfl (by decide) rfl ?_
      refine r_sub (lv' := [(0, .ref a0), (1, .int l1), (2, .int l2), (3, .int (0 : Int32))]) [1, 2, 3, 0] rfl ?_
      refine whl_K (s0 := (((0 : Int32), μ) : Int32 × Mm)) (RR := fun (s20 : Int32 × Mm) => Rn_X11_skill G (fun v μ' => v = some (.int r.1) ∧ μ' = r.2) 20 [(0, .ref a0), (1, .int l1), (2, .int l2), (3, .int s20.1)] [] s20.2) ?_ (Sat_bindK h)
      intro s20 K20 hI20 hX20 h
      refine r_iload_n dX11_skill_20 3 rfl ?_
      refine r_bipush (v := 16) dX11_skill_21 (by decide) ?_
      refine r_icmp_ge 39 dX11_skill_23 (by decide) (fun c23 => ?_) (fun c23 => ?_)
      · have h := Sat_pos c23 h
        have h := hX20 _ (Sat_some h)
        exact r_sub [0, 1, 2] rfl (J39 a0 l1 l2 s20.2 h)
      · have h := Sat_neg c23 h
        refine r_aload_n dX11_skill_26 0 rfl ?_
        obtain ⟨x27, e27, h⟩ := Sat_bind h
        refine r_getP fk_X11_124 rfl e27 dX11_skill_27 ?_
        refine r_iload_n dX11_skill_30 3 rfl ?_
        refine r_iconst (v := 0) dX11_skill_31 (by decide) ?_
        obtain ⟨μ32, e32, h⟩ := Sat_bind h
        refine r_iastore e32 dX11_skill_32 ?_
        obtain ⟨v33, e33, h⟩ := Sat_bind h
        refine r_iinc (j := 3) (v := v33) (lv' := [(3, .int v33), (0, .ref a0), (1, .int l1), (2, .int l2)]) dX11_skill_33 rfl (iinc_v e33 (by decide)) (by decide) rfl ?_
        refine r_goto 20 dX11_skill_36 (by decide) ?_
        exact r_sub [1, 2, 3, 0] rfl (hI20 _ (Sat_some h))
    · have h := Sat_pos c12 h
      refine r_bipush (v := -2) dX11_skill_15 (by decide) ?_
      exact r_ireturn rfl (by rw [← Sat_eq h]; exact ⟨rfl, rfl⟩) dX11_skill_17
theorem dX11_sure_0 : decode cX11_sure 0 = .ok (.aload_n 0, 1) := by decide +kernel
theorem dX11_sure_1 : decode cX11_sure 1 = .ok (.iload_n 1, 1) := by decide +kernel
theorem dX11_sure_2 : decode cX11_sure 2 = .ok (.invokevirtual 309, 3) := by decide +kernel
theorem dX11_sure_5 : decode cX11_sure 5 = .ok (.ifCond .eq 10, 3) := by decide +kernel
theorem dX11_sure_8 : decode cX11_sure 8 = .ok (.iload_n 2, 1) := by decide +kernel
theorem dX11_sure_9 : decode cX11_sure 9 = .ok (.invokestatic 389, 3) := by decide +kernel
theorem dX11_sure_12 : decode cX11_sure 12 = .ok (.ifCond .ne 6, 3) := by decide +kernel
theorem dX11_sure_15 : decode cX11_sure 15 = .ok (.bipush (-2), 2) := by decide +kernel
theorem dX11_sure_17 : decode cX11_sure 17 = .ok (.ireturn, 1) := by decide +kernel
theorem dX11_sure_18 : decode cX11_sure 18 = .ok (.aload_n 0, 1) := by decide +kernel
theorem dX11_sure_19 : decode cX11_sure 19 = .ok (.iload_n 2, 1) := by decide +kernel
theorem dX11_sure_20 : decode cX11_sure 20 = .ok (.invokevirtual 392, 3) := by decide +kernel
theorem dX11_sure_23 : decode cX11_sure 23 = .ok (.pop, 1) := by decide +kernel
theorem dX11_sure_24 : decode cX11_sure 24 = .ok (.iconst 0, 1) := by decide +kernel
theorem dX11_sure_25 : decode cX11_sure 25 = .ok (.istore_n 3, 1) := by decide +kernel
theorem dX11_sure_26 : decode cX11_sure 26 = .ok (.iconst 0, 1) := by decide +kernel
theorem dX11_sure_27 : decode cX11_sure 27 = .ok (.istore 4, 2) := by decide +kernel
theorem dX11_sure_29 : decode cX11_sure 29 = .ok (.iload 4, 2) := by decide +kernel
theorem dX11_sure_31 : decode cX11_sure 31 = .ok (.aload_n 0, 1) := by decide +kernel
theorem dX11_sure_32 : decode cX11_sure 32 = .ok (.getfield 234, 3) := by decide +kernel
theorem dX11_sure_35 : decode cX11_sure 35 = .ok (.if_icmp .ge 49, 3) := by decide +kernel
theorem dX11_sure_38 : decode cX11_sure 38 = .ok (.aload_n 0, 1) := by decide +kernel
theorem dX11_sure_39 : decode cX11_sure 39 = .ok (.iload 4, 2) := by decide +kernel
theorem dX11_sure_41 : decode cX11_sure 41 = .ok (.invokevirtual 395, 3) := by decide +kernel
theorem dX11_sure_44 : decode cX11_sure 44 = .ok (.ifCond .eq 34, 3) := by decide +kernel
theorem dX11_sure_47 : decode cX11_sure 47 = .ok (.aload_n 0, 1) := by decide +kernel
theorem dX11_sure_48 : decode cX11_sure 48 = .ok (.getfield 73, 3) := by decide +kernel
theorem dX11_sure_51 : decode cX11_sure 51 = .ok (.iload 4, 2) := by decide +kernel
theorem dX11_sure_53 : decode cX11_sure 53 = .ok (.laload, 1) := by decide +kernel
theorem dX11_sure_54 : decode cX11_sure 54 = .ok (.iload_n 1, 1) := by decide +kernel
theorem dX11_sure_55 : decode cX11_sure 55 = .ok (.invokestatic 320, 3) := by decide +kernel
theorem dX11_sure_58 : decode cX11_sure 58 = .ok (.iconst (-1), 1) := by decide +kernel
theorem dX11_sure_59 : decode cX11_sure 59 = .ok (.if_icmp .eq 19, 3) := by decide +kernel
theorem dX11_sure_62 : decode cX11_sure 62 = .ok (.iload_n 3, 1) := by decide +kernel
theorem dX11_sure_63 : decode cX11_sure 63 = .ok (.iconst 1, 1) := by decide +kernel
theorem dX11_sure_64 : decode cX11_sure 64 = .ok (.aload_n 0, 1) := by decide +kernel
theorem dX11_sure_65 : decode cX11_sure 65 = .ok (.getfield 73, 3) := by decide +kernel
theorem dX11_sure_68 : decode cX11_sure 68 = .ok (.iload 4, 2) := by decide +kernel
theorem dX11_sure_70 : decode cX11_sure 70 = .ok (.laload, 1) := by decide +kernel
theorem dX11_sure_71 : decode cX11_sure 71 = .ok (.iload_n 1, 1) := by decide +kernel
theorem dX11_sure_72 : decode cX11_sure 72 = .ok (.invokestatic 320, 3) := by decide +kernel
theorem dX11_sure_75 : decode cX11_sure 75 = .ok (.ishl, 1) := by decide +kernel
theorem dX11_sure_76 : decode cX11_sure 76 = .ok (.ior, 1) := by decide +kernel
theorem dX11_sure_77 : decode cX11_sure 77 = .ok (.istore_n 3, 1) := by decide +kernel
theorem dX11_sure_78 : decode cX11_sure 78 = .ok (.iinc 4 1, 3) := by decide +kernel
theorem dX11_sure_81 : decode cX11_sure 81 = .ok (.goto (-52), 3) := by decide +kernel
theorem dX11_sure_84 : decode cX11_sure 84 = .ok (.iload_n 3, 1) := by decide +kernel
theorem dX11_sure_85 : decode cX11_sure 85 = .ok (.ireturn, 1) := by decide +kernel
noncomputable def f_X11_sure_J78 (a0 : Nat) (l1 : Int32) (l3 : Int32) (l4 : Int32) (μ : Mm) : Option ((Int32 × Int32) ⊕ (Int32)) :=
  (some (l4 + (1 : Int32))).bind fun v78 => some (.inl (l3, v78))
noncomputable def f_X11_sure_L29 (a0 : Nat) (l1 : Int32) (μ : Mm) (s29 : Int32 × Int32) : Option ((Int32 × Int32) ⊕ (Int32)) :=
  (gf_I 12 32 a0 μ).bind fun x32 => if x32 ≤ s29.2 then some (.inr s29.1) else (f_X11_isFitting a0 s29.2 μ).bind fun x41 => if x41 = 0 then f_X11_sure_J78 a0 l1 s29.1 s29.2 μ else (gf_P 12 34 a0 μ).bind fun x48 => (ga_L x48 s29.2 μ).bind fun x53 => (f_X11_dreamtBy x53 l1 μ).bind fun x55 => if x55 = (-1 : Int32) then f_X11_sure_J78 a0 l1 s29.1 s29.2 μ else (gf_P 12 34 a0 μ).bind fun x65 => (ga_L x65 s29.2 μ).bind fun x70 => (f_X11_dreamtBy x70 l1 μ).bind fun x72 => (some (s29.1 ||| ((1 : Int32) <<< (x72 &&& 31)))).bind fun v77 => f_X11_sure_J78 a0 l1 v77 s29.2 μ
noncomputable def f_X11_sure (a0 : Nat) (l1 : Int32) (l2 : Int32) (μ : Mm) : Option (Int32 × Mm) :=
  if (mm_K μ a0).1 = 12 then (f_X11_isPerson a0 l1 μ).bind fun x2 => if x2 = 0 then some ((-2 : Int32), μ) else (f_X11_isStep l2 μ).bind fun x9 => if x9 = 0 then some ((-2 : Int32), μ) else (f_X11_findFits a0 l2 μ).bind fun x20 => (whl (f_X11_sure_L29 a0 l1 x20.2) ((0 : Int32), (0 : Int32))).bind (fun b29 => some (b29, x20.2)) else none
abbrev Rn_X11_sure (G : Gv) (Q : Option Value → Mm → Prop) (pc : Nat) (lv : List (Nat × Value)) (st : List Value) (μ : Mm) : Prop := Rn G RX11 cX11_sure 5 (some .int) "sure" (rmd 5 0 0) (Zm G 0 0 Q) 0 0 pc lv st μ
set_option maxRecDepth 100000 in
set_option maxHeartbeats 4000000 in
theorem m_X11_sure {G : Gv} (a0 : Nat) (l1 : Int32) (l2 : Int32) (μ : Mm) {r : (Int32 × Mm)} (hx : f_X11_sure a0 l1 l2 μ = some r) : Mt G yX11_sure cX11_sure 5 (some .int) 5 0 0 [.ref a0, .int l1, .int l2] μ (fun v μ' => v = some (.int r.1) ∧ μ' = r.2) := by
  refine Mt.of (by decide) (Nat.le_of_ble_eq_true rfl) ?_
  show Rn_X11_sure G (fun v μ' => v = some (.int r.1) ∧ μ' = r.2) 0 [(0, .ref a0), (1, .int l1), (2, .int l2)] [] μ
  obtain ⟨_, h⟩ := Sat_ifp (show Sat (f_X11_sure a0 l1 l2 μ) (fun x => x = r) from ⟨_, hx, rfl⟩)
  refine r_aload_n dX11_sure_0 0 rfl ?_
  refine r_iload_n dX11_sure_1 1 rfl ?_
  obtain ⟨x2, e2, h⟩ := Sat_bind h
  refine r_cV (t := 12) [.int l1] [] (m_X11_isPerson a0 l1 μ e2) ck_X11_isPerson lk_X11_309 in_X11_isPerson se_X11_isPerson (kd_of e2) ⟨rfl, by decide, by decide⟩ rfl rfl (Nat.le_of_ble_eq_true rfl) ⟨by decide, by decide⟩ ⟨Nat.zero_le _, Nat.zero_le _⟩ dX11_sure_2 ?_
  refine r_if_eq 15 dX11_sure_5 (by decide) (fun c5 => ?_) (fun c5 => ?_)
  · have h := Sat_pos c5 h
    refine r_bipush (v := -2) dX11_sure_15 (by decide) ?_
    exact r_ireturn rfl (by rw [← Sat_eq h]; exact ⟨rfl, rfl⟩) dX11_sure_17
  · have h := Sat_neg c5 h
    refine r_iload_n dX11_sure_8 2 rfl ?_
    obtain ⟨x9, e9, h⟩ := Sat_bind h
    refine r_cS [.int l2] [] (m_X11_isStep l2 μ e9) ck_X11_isStep lk_X11_389 st_X11_isStep rfl rfl (Nat.le_of_ble_eq_true rfl) ⟨by decide, by decide⟩ ⟨Nat.zero_le _, Nat.zero_le _⟩ dX11_sure_9 ?_
    refine r_if_ne 18 dX11_sure_12 (by decide) (fun c12 => ?_) (fun c12 => ?_)
    · have h := Sat_neg c12 h
      refine r_aload_n dX11_sure_18 0 rfl ?_
      refine r_iload_n dX11_sure_19 2 rfl ?_
      obtain ⟨x20, e20, h⟩ := Sat_bind h
      refine r_cV (t := 12) [.int l2] [] (m_X11_findFits a0 l2 μ e20) ck_X11_findFits lk_X11_392 in_X11_findFits se_X11_findFits (kd_of e20) ⟨rfl, by decide, by decide⟩ rfl rfl (Nat.le_of_ble_eq_true rfl) ⟨by decide, by decide⟩ ⟨Nat.zero_le _, Nat.zero_le _⟩ dX11_sure_20 ?_
      refine r_pop dX11_sure_23 rfl ?_
      refine r_iconst (v := 0) dX11_sure_24 (by decide) ?_
      refine r_istore_n (lv' := [(3, .int (0 : Int32)), (0, .ref a0), (1, .int l1), (2, .int l2)]) dX11_sure_25 rfl (by decide) rfl ?_
      refine r_iconst (v := 0) dX11_sure_26 (by decide) ?_
      refine r_istore (lv' := [(4, .int (0 : Int32)), (3, .int (0 : Int32)), (0, .ref a0), (1, .int l1), (2, .int l2)]) dX11_sure_27 (by decide) rfl ?_
      refine r_sub (lv' := [(0, .ref a0), (1, .int l1), (3, .int (0 : Int32)), (4, .int (0 : Int32))]) [2, 3, 1, 0] rfl ?_
      refine whl_K (s0 := (((0 : Int32), (0 : Int32)) : Int32 × Int32)) (RR := fun (s29 : Int32 × Int32) => Rn_X11_sure G (fun v μ' => v = some (.int r.1) ∧ μ' = r.2) 29 [(0, .ref a0), (1, .int l1), (3, .int s29.1), (4, .int s29.2)] [] x20.2) ?_ (Sat_bindK h)
      intro s29 K29 hI29 hX29 h
      have J78 : ∀ (l3_78 : Int32) (l4_78 : Int32), Sat (f_X11_sure_J78 a0 l1 l3_78 l4_78 x20.2) K29 → Rn_X11_sure G (fun v μ' => v = some (.int r.1) ∧ μ' = r.2) 78 [(0, .ref a0), (1, .int l1), (3, .int l3_78), (4, .int l4_78)] [] x20.2 := by
        intro l3_78 l4_78 h
        obtain ⟨v78, e78, h⟩ := Sat_bind h
        refine r_iinc (j := 3) (v := v78) (lv' := [(4, .int v78), (0, .ref a0), (1, .int l1), (3, .int l3_78)]) dX11_sure_78 rfl (iinc_v e78 (by decide)) (by decide) rfl ?_
        refine r_goto 29 dX11_sure_81 (by decide) ?_
        exact r_sub [1, 2, 3, 0] rfl (hI29 _ (Sat_some h))
      refine r_iload dX11_sure_29 3 rfl ?_
      refine r_aload_n dX11_sure_31 0 rfl ?_
      obtain ⟨x32, e32, h⟩ := Sat_bind h
      refine r_getI fk_X11_234 rfl e32 dX11_sure_32 ?_
      refine r_icmp_ge 84 dX11_sure_35 (by decide) (fun c35 => ?_) (fun c35 => ?_)
      · have h := Sat_pos c35 h
        have h := hX29 _ (Sat_some h)
        refine r_iload_n dX11_sure_84 2 rfl ?_
        exact r_ireturn rfl (by rw [← Sat_eq h]; exact ⟨rfl, rfl⟩) dX11_sure_85
      · have h := Sat_neg c35 h
        refine r_aload_n dX11_sure_38 0 rfl ?_
        refine r_iload dX11_sure_39 3 rfl ?_
        obtain ⟨x41, e41, h⟩ := Sat_bind h
        refine r_cV (t := 12) [.int s29.2] [] (m_X11_isFitting a0 s29.2 x20.2 e41) ck_X11_isFitting lk_X11_395 in_X11_isFitting se_X11_isFitting (kd_of e41) ⟨rfl, by decide, by decide⟩ rfl rfl (Nat.le_of_ble_eq_true rfl) ⟨by decide, by decide⟩ ⟨Nat.zero_le _, Nat.zero_le _⟩ dX11_sure_41 ?_
        refine r_if_eq 78 dX11_sure_44 (by decide) (fun c44 => ?_) (fun c44 => ?_)
        · have h := Sat_pos c44 h
          exact r_sub [0, 1, 2, 3] rfl (J78 s29.1 s29.2 h)
        · have h := Sat_neg c44 h
          refine r_aload_n dX11_sure_47 0 rfl ?_
          obtain ⟨x48, e48, h⟩ := Sat_bind h
          refine r_getP fk_X11_73 rfl e48 dX11_sure_48 ?_
          refine r_iload dX11_sure_51 3 rfl ?_
          obtain ⟨x53, e53, h⟩ := Sat_bind h
          refine r_laload e53 dX11_sure_53 ?_
          refine r_iload_n dX11_sure_54 1 rfl ?_
          obtain ⟨x55, e55, h⟩ := Sat_bind h
          refine r_cS [.long x53, .int l1] [] (m_X11_dreamtBy x53 l1 x20.2 e55) ck_X11_dreamtBy lk_X11_320 st_X11_dreamtBy rfl rfl (Nat.le_of_ble_eq_true rfl) ⟨by decide, by decide⟩ ⟨Nat.zero_le _, Nat.zero_le _⟩ dX11_sure_55 ?_
          refine r_iconst (v := -1) dX11_sure_58 (by decide) ?_
          refine r_icmp_eq 78 dX11_sure_59 (by decide) (fun c59 => ?_) (fun c59 => ?_)
          · have h := Sat_pos c59 h
            exact r_sub [0, 1, 2, 3] rfl (J78 s29.1 s29.2 h)
          · have h := Sat_neg c59 h
            refine r_iload_n dX11_sure_62 2 rfl ?_
            refine r_iconst (v := 1) dX11_sure_63 (by decide) ?_
            refine r_aload_n dX11_sure_64 0 rfl ?_
            obtain ⟨x65, e65, h⟩ := Sat_bind h
            refine r_getP fk_X11_73 rfl e65 dX11_sure_65 ?_
            refine r_iload dX11_sure_68 3 rfl ?_
            obtain ⟨x70, e70, h⟩ := Sat_bind h
            refine r_laload e70 dX11_sure_70 ?_
            refine r_iload_n dX11_sure_71 1 rfl ?_
            obtain ⟨x72, e72, h⟩ := Sat_bind h
            refine r_cS [.long x70, .int l1] [.int (1 : Int32), .int s29.1] (m_X11_dreamtBy x70 l1 x20.2 e72) ck_X11_dreamtBy lk_X11_320 st_X11_dreamtBy rfl rfl (Nat.le_of_ble_eq_true rfl) ⟨by decide, by decide⟩ ⟨Nat.zero_le _, Nat.zero_le _⟩ dX11_sure_72 ?_
            refine r_ishl dX11_sure_75 ?_
            refine r_ior dX11_sure_76 ?_
            obtain ⟨v77, e77, h⟩ := Sat_bind h
            refine r_topi (Option.some.inj e77) ?_
            refine r_istore_n (lv' := [(3, .int v77), (0, .ref a0), (1, .int l1), (4, .int s29.2)]) dX11_sure_77 rfl (by decide) rfl ?_
            exact r_sub [1, 2, 0, 3] rfl (J78 v77 s29.2 h)
    · have h := Sat_pos c12 h
      refine r_bipush (v := -2) dX11_sure_15 (by decide) ?_
      exact r_ireturn rfl (by rw [← Sat_eq h]; exact ⟨rfl, rfl⟩) dX11_sure_17
theorem dX11_take_0 : decode cX11_take 0 = .ok (.iload_n 1, 1) := by decide +kernel
theorem dX11_take_1 : decode cX11_take 1 = .ok (.invokestatic 466, 3) := by decide +kernel
theorem dX11_take_4 : decode cX11_take 4 = .ok (.ifCond .ne 6, 3) := by decide +kernel
theorem dX11_take_7 : decode cX11_take 7 = .ok (.bipush (-2), 2) := by decide +kernel
theorem dX11_take_9 : decode cX11_take 9 = .ok (.ireturn, 1) := by decide +kernel
theorem dX11_take_10 : decode cX11_take 10 = .ok (.aload_n 0, 1) := by decide +kernel
theorem dX11_take_11 : decode cX11_take 11 = .ok (.getfield 145, 3) := by decide +kernel
theorem dX11_take_14 : decode cX11_take 14 = .ok (.iload_n 1, 1) := by decide +kernel
theorem dX11_take_15 : decode cX11_take 15 = .ok (.baload, 1) := by decide +kernel
theorem dX11_take_16 : decode cX11_take 16 = .ok (.ifCond .ne 6, 3) := by decide +kernel
theorem dX11_take_19 : decode cX11_take 19 = .ok (.bipush (-4), 2) := by decide +kernel
theorem dX11_take_21 : decode cX11_take 21 = .ok (.ireturn, 1) := by decide +kernel
theorem dX11_take_22 : decode cX11_take 22 = .ok (.aload_n 0, 1) := by decide +kernel
theorem dX11_take_23 : decode cX11_take 23 = .ok (.iconst 1, 1) := by decide +kernel
theorem dX11_take_24 : decode cX11_take 24 = .ok (.putfield 253, 3) := by decide +kernel
theorem dX11_take_27 : decode cX11_take 27 = .ok (.aload_n 0, 1) := by decide +kernel
theorem dX11_take_28 : decode cX11_take 28 = .ok (.aload_n 0, 1) := by decide +kernel
theorem dX11_take_29 : decode cX11_take 29 = .ok (.getfield 136, 3) := by decide +kernel
theorem dX11_take_32 : decode cX11_take 32 = .ok (.iload_n 1, 1) := by decide +kernel
theorem dX11_take_33 : decode cX11_take 33 = .ok (.iaload, 1) := by decide +kernel
theorem dX11_take_34 : decode cX11_take 34 = .ok (.putfield 446, 3) := by decide +kernel
theorem dX11_take_37 : decode cX11_take 37 = .ok (.aload_n 0, 1) := by decide +kernel
theorem dX11_take_38 : decode cX11_take 38 = .ok (.aload_n 0, 1) := by decide +kernel
theorem dX11_take_39 : decode cX11_take 39 = .ok (.getfield 139, 3) := by decide +kernel
theorem dX11_take_42 : decode cX11_take 42 = .ok (.iload_n 1, 1) := by decide +kernel
theorem dX11_take_43 : decode cX11_take 43 = .ok (.iaload, 1) := by decide +kernel
theorem dX11_take_44 : decode cX11_take 44 = .ok (.putfield 449, 3) := by decide +kernel
theorem dX11_take_47 : decode cX11_take 47 = .ok (.aload_n 0, 1) := by decide +kernel
theorem dX11_take_48 : decode cX11_take 48 = .ok (.aload_n 0, 1) := by decide +kernel
theorem dX11_take_49 : decode cX11_take 49 = .ok (.getfield 142, 3) := by decide +kernel
theorem dX11_take_52 : decode cX11_take 52 = .ok (.iload_n 1, 1) := by decide +kernel
theorem dX11_take_53 : decode cX11_take 53 = .ok (.laload, 1) := by decide +kernel
theorem dX11_take_54 : decode cX11_take 54 = .ok (.putfield 443, 3) := by decide +kernel
theorem dX11_take_57 : decode cX11_take 57 = .ok (.iconst 0, 1) := by decide +kernel
theorem dX11_take_58 : decode cX11_take 58 = .ok (.istore_n 2, 1) := by decide +kernel
theorem dX11_take_59 : decode cX11_take 59 = .ok (.iload_n 2, 1) := by decide +kernel
theorem dX11_take_60 : decode cX11_take 60 = .ok (.bipush 8, 2) := by decide +kernel
theorem dX11_take_62 : decode cX11_take 62 = .ok (.if_icmp .ge 28, 3) := by decide +kernel
theorem dX11_take_65 : decode cX11_take 65 = .ok (.aload_n 0, 1) := by decide +kernel
theorem dX11_take_66 : decode cX11_take 66 = .ok (.getfield 133, 3) := by decide +kernel
theorem dX11_take_69 : decode cX11_take 69 = .ok (.iload_n 2, 1) := by decide +kernel
theorem dX11_take_70 : decode cX11_take 70 = .ok (.aload_n 0, 1) := by decide +kernel
theorem dX11_take_71 : decode cX11_take 71 = .ok (.getfield 133, 3) := by decide +kernel
theorem dX11_take_74 : decode cX11_take 74 = .ok (.bipush 8, 2) := by decide +kernel
theorem dX11_take_76 : decode cX11_take 76 = .ok (.iload_n 1, 1) := by decide +kernel
theorem dX11_take_77 : decode cX11_take 77 = .ok (.iconst 1, 1) := by decide +kernel
theorem dX11_take_78 : decode cX11_take 78 = .ok (.iadd, 1) := by decide +kernel
theorem dX11_take_79 : decode cX11_take 79 = .ok (.imul, 1) := by decide +kernel
theorem dX11_take_80 : decode cX11_take 80 = .ok (.iload_n 2, 1) := by decide +kernel
theorem dX11_take_81 : decode cX11_take 81 = .ok (.iadd, 1) := by decide +kernel
theorem dX11_take_82 : decode cX11_take 82 = .ok (.iaload, 1) := by decide +kernel
theorem dX11_take_83 : decode cX11_take 83 = .ok (.iastore, 1) := by decide +kernel
theorem dX11_take_84 : decode cX11_take 84 = .ok (.iinc 2 1, 3) := by decide +kernel
theorem dX11_take_87 : decode cX11_take 87 = .ok (.goto (-28), 3) := by decide +kernel
theorem dX11_take_90 : decode cX11_take 90 = .ok (.aload_n 0, 1) := by decide +kernel
theorem dX11_take_91 : decode cX11_take 91 = .ok (.getfield 449, 3) := by decide +kernel
theorem dX11_take_94 : decode cX11_take 94 = .ok (.ireturn, 1) := by decide +kernel
noncomputable def f_X11_take_J90 (a0 : Nat) (μ : Mm) : Option (Int32 × Mm) :=
  (gf_I 12 66 a0 μ).bind fun x91 => some (x91, μ)
noncomputable def f_X11_take_L59 (a0 : Nat) (l1 : Int32) (s59 : Int32 × Mm) : Option ((Int32 × Mm) ⊕ (Mm)) :=
  if (8 : Int32) ≤ s59.1 then some (.inr s59.2) else (gf_P 12 68 a0 s59.2).bind fun x66 => (gf_P 12 68 a0 s59.2).bind fun x71 => (ga_I x71 (((8 : Int32) * (l1 + (1 : Int32))) + s59.1) s59.2).bind fun x82 => (pa_I x66 s59.1 x82 s59.2).bind fun μ83 => (some (s59.1 + (1 : Int32))).bind fun v84 => some (.inl (v84, μ83))
noncomputable def f_X11_take (a0 : Nat) (l1 : Int32) (μ : Mm) : Option (Int32 × Mm) :=
  if (mm_K μ a0).1 = 12 then (f_X11_isSlot l1 μ).bind fun x1 => if x1 = 0 then some ((-2 : Int32), μ) else (gf_P 12 72 a0 μ).bind fun x11 => (ga_Z x11 l1 μ).bind fun x15 => if x15 = 0 then some ((-4 : Int32), μ) else (pf_Z 12 64 a0 (1 : Int32) μ).bind fun μ24 => (gf_P 12 69 a0 μ24).bind fun x29 => (ga_I x29 l1 μ24).bind fun x33 => (pf_I 12 65 a0 x33 μ24).bind fun μ34 => (gf_P 12 70 a0 μ34).bind fun x39 => (ga_I x39 l1 μ34).bind fun x43 => (pf_I 12 66 a0 x43 μ34).bind fun μ44 => (gf_P 12 71 a0 μ44).bind fun x49 => (ga_L x49 l1 μ44).bind fun x53 => (pf_L 12 67 a0 x53 μ44).bind fun μ54 => (whl (f_X11_take_L59 a0 l1) ((0 : Int32), μ54)).bind (fun b59 => f_X11_take_J90 a0 b59) else none
abbrev Rn_X11_take (G : Gv) (Q : Option Value → Mm → Prop) (pc : Nat) (lv : List (Nat × Value)) (st : List Value) (μ : Mm) : Prop := Rn G RX11 cX11_take 3 (some .int) "take" (rmd 2 0 0) (Zm G 0 0 Q) 0 0 pc lv st μ
set_option maxRecDepth 100000 in
set_option maxHeartbeats 4000000 in
theorem m_X11_take {G : Gv} (a0 : Nat) (l1 : Int32) (μ : Mm) {r : (Int32 × Mm)} (hx : f_X11_take a0 l1 μ = some r) : Mt G yX11_take cX11_take 3 (some .int) 2 0 0 [.ref a0, .int l1] μ (fun v μ' => v = some (.int r.1) ∧ μ' = r.2) := by
  refine Mt.of (by decide) (Nat.le_of_ble_eq_true rfl) ?_
  show Rn_X11_take G (fun v μ' => v = some (.int r.1) ∧ μ' = r.2) 0 [(0, .ref a0), (1, .int l1)] [] μ
  obtain ⟨_, h⟩ := Sat_ifp (show Sat (f_X11_take a0 l1 μ) (fun x => x = r) from ⟨_, hx, rfl⟩)
  have J90 : ∀ (a0_90 : Nat) (μ_90 : Mm), Sat (f_X11_take_J90 a0_90 μ_90) (fun x => x = r) → Rn_X11_take G (fun v μ' => v = some (.int r.1) ∧ μ' = r.2) 90 [(0, .ref a0_90)] [] μ_90 := by
    intro a0_90 μ_90 h
    refine r_aload_n dX11_take_90 0 rfl ?_
    obtain ⟨x91, e91, h⟩ := Sat_bind h
    refine r_getI fk_X11_449 rfl e91 dX11_take_91 ?_
    exact r_ireturn rfl (by rw [← Sat_eq h]; exact ⟨rfl, rfl⟩) dX11_take_94
  refine r_iload_n dX11_take_0 1 rfl ?_
  obtain ⟨x1, e1, h⟩ := Sat_bind h
  refine r_cS [.int l1] [] (m_X11_isSlot l1 μ e1) ck_X11_isSlot lk_X11_466 st_X11_isSlot rfl rfl (Nat.le_of_ble_eq_true rfl) ⟨by decide, by decide⟩ ⟨Nat.zero_le _, Nat.zero_le _⟩ dX11_take_1 ?_
  refine r_if_ne 10 dX11_take_4 (by decide) (fun c4 => ?_) (fun c4 => ?_)
  · have h := Sat_neg c4 h
    refine r_aload_n dX11_take_10 0 rfl ?_
    obtain ⟨x11, e11, h⟩ := Sat_bind h
    refine r_getP fk_X11_145 rfl e11 dX11_take_11 ?_
    refine r_iload_n dX11_take_14 1 rfl ?_
    obtain ⟨x15, e15, h⟩ := Sat_bind h
    refine r_zaload e15 dX11_take_15 ?_
    refine r_if_ne 22 dX11_take_16 (by decide) (fun c16 => ?_) (fun c16 => ?_)
    · have h := Sat_neg c16 h
      refine r_aload_n dX11_take_22 0 rfl ?_
      refine r_iconst (v := 1) dX11_take_23 (by decide) ?_
      obtain ⟨μ24, e24, h⟩ := Sat_bind h
      refine r_putZ fk_X11_253 rfl rfl e24 dX11_take_24 ?_
      refine r_aload_n dX11_take_27 0 rfl ?_
      refine r_aload_n dX11_take_28 0 rfl ?_
      obtain ⟨x29, e29, h⟩ := Sat_bind h
      refine r_getP fk_X11_136 rfl e29 dX11_take_29 ?_
      refine r_iload_n dX11_take_32 1 rfl ?_
      obtain ⟨x33, e33, h⟩ := Sat_bind h
      refine r_iaload e33 dX11_take_33 ?_
      obtain ⟨μ34, e34, h⟩ := Sat_bind h
      refine r_putI fk_X11_446 rfl rfl e34 dX11_take_34 ?_
      refine r_aload_n dX11_take_37 0 rfl ?_
      refine r_aload_n dX11_take_38 0 rfl ?_
      obtain ⟨x39, e39, h⟩ := Sat_bind h
      refine r_getP fk_X11_139 rfl e39 dX11_take_39 ?_
      refine r_iload_n dX11_take_42 1 rfl ?_
      obtain ⟨x43, e43, h⟩ := Sat_bind h
      refine r_iaload e43 dX11_take_43 ?_
      obtain ⟨μ44, e44, h⟩ := Sat_bind h
      refine r_putI fk_X11_449 rfl rfl e44 dX11_take_44 ?_
      refine r_aload_n dX11_take_47 0 rfl ?_
      refine r_aload_n dX11_take_48 0 rfl ?_
      obtain ⟨x49, e49, h⟩ := Sat_bind h
      refine r_getP fk_X11_142 rfl e49 dX11_take_49 ?_
      refine r_iload_n dX11_take_52 1 rfl ?_
      obtain ⟨x53, e53, h⟩ := Sat_bind h
      refine r_laload e53 dX11_take_53 ?_
      obtain ⟨μ54, e54, h⟩ := Sat_bind h
      refine r_putL fk_X11_443 rfl rfl e54 dX11_take_54 ?_
      refine r_iconst (v := 0) dX11_take_57 (by decide) ?_
      refine r_istore_n (lv' := [(2, .int (0 : Int32)), (0, .ref a0), (1, .int l1)]) dX11_take_58 rfl (by decide) rfl ?_
      refine r_sub (lv' := [(0, .ref a0), (1, .int l1), (2, .int (0 : Int32))]) [1, 2, 0] rfl ?_
      refine whl_K (s0 := (((0 : Int32), μ54) : Int32 × Mm)) (RR := fun (s59 : Int32 × Mm) => Rn_X11_take G (fun v μ' => v = some (.int r.1) ∧ μ' = r.2) 59 [(0, .ref a0), (1, .int l1), (2, .int s59.1)] [] s59.2) ?_ (Sat_bindK h)
      intro s59 K59 hI59 hX59 h
      refine r_iload_n dX11_take_59 2 rfl ?_
      refine r_bipush (v := 8) dX11_take_60 (by decide) ?_
      refine r_icmp_ge 90 dX11_take_62 (by decide) (fun c62 => ?_) (fun c62 => ?_)
      · have h := Sat_pos c62 h
        have h := hX59 _ (Sat_some h)
        exact r_sub [0] rfl (J90 a0 s59.2 h)
      · have h := Sat_neg c62 h
        refine r_aload_n dX11_take_65 0 rfl ?_
        obtain ⟨x66, e66, h⟩ := Sat_bind h
        refine r_getP fk_X11_133 rfl e66 dX11_take_66 ?_
        refine r_iload_n dX11_take_69 2 rfl ?_
        refine r_aload_n dX11_take_70 0 rfl ?_
        obtain ⟨x71, e71, h⟩ := Sat_bind h
        refine r_getP fk_X11_133 rfl e71 dX11_take_71 ?_
        refine r_bipush (v := 8) dX11_take_74 (by decide) ?_
        refine r_iload_n dX11_take_76 1 rfl ?_
        refine r_iconst (v := 1) dX11_take_77 (by decide) ?_
        refine r_iadd dX11_take_78 ?_
        refine r_imul dX11_take_79 ?_
        refine r_iload_n dX11_take_80 2 rfl ?_
        refine r_iadd dX11_take_81 ?_
        obtain ⟨x82, e82, h⟩ := Sat_bind h
        refine r_iaload e82 dX11_take_82 ?_
        obtain ⟨μ83, e83, h⟩ := Sat_bind h
        refine r_iastore e83 dX11_take_83 ?_
        obtain ⟨v84, e84, h⟩ := Sat_bind h
        refine r_iinc (j := 2) (v := v84) (lv' := [(2, .int v84), (0, .ref a0), (1, .int l1)]) dX11_take_84 rfl (iinc_v e84 (by decide)) (by decide) rfl ?_
        refine r_goto 59 dX11_take_87 (by decide) ?_
        exact r_sub [1, 2, 0] rfl (hI59 _ (Sat_some h))
    · have h := Sat_pos c16 h
      refine r_bipush (v := -4) dX11_take_19 (by decide) ?_
      exact r_ireturn rfl (by rw [← Sat_eq h]; exact ⟨rfl, rfl⟩) dX11_take_21
  · have h := Sat_pos c4 h
    refine r_bipush (v := -2) dX11_take_7 (by decide) ?_
    exact r_ireturn rfl (by rw [← Sat_eq h]; exact ⟨rfl, rfl⟩) dX11_take_9
theorem dX11_told_0 : decode cX11_told 0 = .ok (.iload_n 1, 1) := by decide +kernel
theorem dX11_told_1 : decode cX11_told 1 = .ok (.iconst 0, 1) := by decide +kernel
theorem dX11_told_2 : decode cX11_told 2 = .ok (.iconst 5, 1) := by decide +kernel
theorem dX11_told_3 : decode cX11_told 3 = .ok (.invokestatic 217, 3) := by decide +kernel
theorem dX11_told_6 : decode cX11_told 6 = .ok (.ifCond .eq 10, 3) := by decide +kernel
theorem dX11_told_9 : decode cX11_told 9 = .ok (.aload_n 0, 1) := by decide +kernel
theorem dX11_told_10 : decode cX11_told 10 = .ok (.getfield 17, 3) := by decide +kernel
theorem dX11_told_13 : decode cX11_told 13 = .ok (.iload_n 1, 1) := by decide +kernel
theorem dX11_told_14 : decode cX11_told 14 = .ok (.iaload, 1) := by decide +kernel
theorem dX11_told_15 : decode cX11_told 15 = .ok (.ireturn, 1) := by decide +kernel
theorem dX11_told_16 : decode cX11_told 16 = .ok (.aload_n 0, 1) := by decide +kernel
theorem dX11_told_17 : decode cX11_told 17 = .ok (.iload_n 1, 1) := by decide +kernel
theorem dX11_told_18 : decode cX11_told 18 = .ok (.bipush 10, 2) := by decide +kernel
theorem dX11_told_20 : decode cX11_told 20 = .ok (.isub, 1) := by decide +kernel
theorem dX11_told_21 : decode cX11_told 21 = .ok (.invokevirtual 309, 3) := by decide +kernel
theorem dX11_told_24 : decode cX11_told 24 = .ok (.ifCond .eq 20, 3) := by decide +kernel
theorem dX11_told_27 : decode cX11_told 27 = .ok (.aload_n 0, 1) := by decide +kernel
theorem dX11_told_28 : decode cX11_told 28 = .ok (.iload_n 1, 1) := by decide +kernel
theorem dX11_told_29 : decode cX11_told 29 = .ok (.bipush 10, 2) := by decide +kernel
theorem dX11_told_31 : decode cX11_told 31 = .ok (.isub, 1) := by decide +kernel
theorem dX11_told_32 : decode cX11_told 32 = .ok (.invokevirtual 312, 3) := by decide +kernel
theorem dX11_told_35 : decode cX11_told 35 = .ok (.ifCond .eq 7, 3) := by decide +kernel
theorem dX11_told_38 : decode cX11_told 38 = .ok (.iconst 1, 1) := by decide +kernel
theorem dX11_told_39 : decode cX11_told 39 = .ok (.goto 4, 3) := by decide +kernel
theorem dX11_told_42 : decode cX11_told 42 = .ok (.iconst 0, 1) := by decide +kernel
theorem dX11_told_43 : decode cX11_told 43 = .ok (.ireturn, 1) := by decide +kernel
theorem dX11_told_44 : decode cX11_told 44 = .ok (.aload_n 0, 1) := by decide +kernel
theorem dX11_told_45 : decode cX11_told 45 = .ok (.iload_n 1, 1) := by decide +kernel
theorem dX11_told_46 : decode cX11_told 46 = .ok (.bipush 20, 2) := by decide +kernel
theorem dX11_told_48 : decode cX11_told 48 = .ok (.isub, 1) := by decide +kernel
theorem dX11_told_49 : decode cX11_told 49 = .ok (.invokevirtual 309, 3) := by decide +kernel
theorem dX11_told_52 : decode cX11_told 52 = .ok (.ifCond .eq 15, 3) := by decide +kernel
theorem dX11_told_55 : decode cX11_told 55 = .ok (.aload_n 0, 1) := by decide +kernel
theorem dX11_told_56 : decode cX11_told 56 = .ok (.getfield 25, 3) := by decide +kernel
theorem dX11_told_59 : decode cX11_told 59 = .ok (.iload_n 1, 1) := by decide +kernel
theorem dX11_told_60 : decode cX11_told 60 = .ok (.bipush 20, 2) := by decide +kernel
theorem dX11_told_62 : decode cX11_told 62 = .ok (.isub, 1) := by decide +kernel
theorem dX11_told_63 : decode cX11_told 63 = .ok (.iaload, 1) := by decide +kernel
theorem dX11_told_64 : decode cX11_told 64 = .ok (.iconst 1, 1) := by decide +kernel
theorem dX11_told_65 : decode cX11_told 65 = .ok (.isub, 1) := by decide +kernel
theorem dX11_told_66 : decode cX11_told 66 = .ok (.ireturn, 1) := by decide +kernel
theorem dX11_told_67 : decode cX11_told 67 = .ok (.aload_n 0, 1) := by decide +kernel
theorem dX11_told_68 : decode cX11_told 68 = .ok (.iload_n 1, 1) := by decide +kernel
theorem dX11_told_69 : decode cX11_told 69 = .ok (.bipush 30, 2) := by decide +kernel
theorem dX11_told_71 : decode cX11_told 71 = .ok (.isub, 1) := by decide +kernel
theorem dX11_told_72 : decode cX11_told 72 = .ok (.invokevirtual 315, 3) := by decide +kernel
theorem dX11_told_75 : decode cX11_told 75 = .ok (.ifCond .eq 15, 3) := by decide +kernel
theorem dX11_told_78 : decode cX11_told 78 = .ok (.aload_n 0, 1) := by decide +kernel
theorem dX11_told_79 : decode cX11_told 79 = .ok (.getfield 28, 3) := by decide +kernel
theorem dX11_told_82 : decode cX11_told 82 = .ok (.iload_n 1, 1) := by decide +kernel
theorem dX11_told_83 : decode cX11_told 83 = .ok (.bipush 30, 2) := by decide +kernel
theorem dX11_told_85 : decode cX11_told 85 = .ok (.isub, 1) := by decide +kernel
theorem dX11_told_86 : decode cX11_told 86 = .ok (.iaload, 1) := by decide +kernel
theorem dX11_told_87 : decode cX11_told 87 = .ok (.goto 27, 3) := by decide +kernel
theorem dX11_told_90 : decode cX11_told 90 = .ok (.aload_n 0, 1) := by decide +kernel
theorem dX11_told_91 : decode cX11_told 91 = .ok (.iload_n 1, 1) := by decide +kernel
theorem dX11_told_92 : decode cX11_told 92 = .ok (.bipush 50, 2) := by decide +kernel
theorem dX11_told_94 : decode cX11_told 94 = .ok (.isub, 1) := by decide +kernel
theorem dX11_told_95 : decode cX11_told 95 = .ok (.invokevirtual 315, 3) := by decide +kernel
theorem dX11_told_98 : decode cX11_told 98 = .ok (.ifCond .eq 15, 3) := by decide +kernel
theorem dX11_told_101 : decode cX11_told 101 = .ok (.aload_n 0, 1) := by decide +kernel
theorem dX11_told_102 : decode cX11_told 102 = .ok (.getfield 31, 3) := by decide +kernel
theorem dX11_told_105 : decode cX11_told 105 = .ok (.iload_n 1, 1) := by decide +kernel
theorem dX11_told_106 : decode cX11_told 106 = .ok (.bipush 50, 2) := by decide +kernel
theorem dX11_told_108 : decode cX11_told 108 = .ok (.isub, 1) := by decide +kernel
theorem dX11_told_109 : decode cX11_told 109 = .ok (.iaload, 1) := by decide +kernel
theorem dX11_told_110 : decode cX11_told 110 = .ok (.goto 4, 3) := by decide +kernel
theorem dX11_told_113 : decode cX11_told 113 = .ok (.iconst (-1), 1) := by decide +kernel
theorem dX11_told_114 : decode cX11_told 114 = .ok (.ireturn, 1) := by decide +kernel
noncomputable def f_X11_told (a0 : Nat) (l1 : Int32) (μ : Mm) : Option Int32 :=
  if (mm_K μ a0).1 = 12 then (f_X11_in l1 (0 : Int32) (5 : Int32) μ).bind fun x3 => if x3 = 0 then (f_X11_isPerson a0 (l1 - (10 : Int32)) μ).bind fun x21 => if x21 = 0 then (f_X11_isPerson a0 (l1 - (20 : Int32)) μ).bind fun x49 => if x49 = 0 then (f_X11_isFact a0 (l1 - (30 : Int32)) μ).bind fun x72 => if x72 = 0 then (f_X11_isFact a0 (l1 - (50 : Int32)) μ).bind fun x95 => if x95 = 0 then some (-1 : Int32) else (gf_P 12 16 a0 μ).bind fun x102 => (ga_I x102 (l1 - (50 : Int32)) μ).bind fun x109 => some x109 else (gf_P 12 15 a0 μ).bind fun x79 => (ga_I x79 (l1 - (30 : Int32)) μ).bind fun x86 => some x86 else (gf_P 12 14 a0 μ).bind fun x56 => (ga_I x56 (l1 - (20 : Int32)) μ).bind fun x63 => some (x63 - (1 : Int32)) else (f_X11_isAlone a0 (l1 - (10 : Int32)) μ).bind fun x32 => if x32 = 0 then some (0 : Int32) else some (1 : Int32) else (gf_P 12 12 a0 μ).bind fun x10 => (ga_I x10 l1 μ).bind fun x14 => some x14 else none
abbrev Rn_X11_told (G : Gv) (Q : Option Value → Mm → Prop) (pc : Nat) (lv : List (Nat × Value)) (st : List Value) (μ : Mm) : Prop := Rn G RX11 cX11_told 2 (some .int) "told" (rmd 2 0 0) (Zm G 0 0 Q) 0 0 pc lv st μ
set_option maxRecDepth 100000 in
set_option maxHeartbeats 4000000 in
theorem m_X11_told {G : Gv} (a0 : Nat) (l1 : Int32) (μ : Mm) {r : Int32} (hx : f_X11_told a0 l1 μ = some r) : Mt G yX11_told cX11_told 2 (some .int) 2 0 0 [.ref a0, .int l1] μ (fun v μ' => v = some (.int r) ∧ μ' = μ) := by
  refine Mt.of (by decide) (Nat.le_of_ble_eq_true rfl) ?_
  show Rn_X11_told G (fun v μ' => v = some (.int r) ∧ μ' = μ) 0 [(0, .ref a0), (1, .int l1)] [] μ
  obtain ⟨_, h⟩ := Sat_ifp (show Sat (f_X11_told a0 l1 μ) (fun x => x = r) from ⟨_, hx, rfl⟩)
  refine r_iload_n dX11_told_0 1 rfl ?_
  refine r_iconst (v := 0) dX11_told_1 (by decide) ?_
  refine r_iconst (v := 5) dX11_told_2 (by decide) ?_
  obtain ⟨x3, e3, h⟩ := Sat_bind h
  refine r_cS [.int l1, .int (0 : Int32), .int (5 : Int32)] [] (m_X11_in l1 (0 : Int32) (5 : Int32) μ e3) ck_X11_in lk_X11_217 st_X11_in rfl rfl (Nat.le_of_ble_eq_true rfl) ⟨by decide, by decide⟩ ⟨Nat.zero_le _, Nat.zero_le _⟩ dX11_told_3 ?_
  refine r_if_eq 16 dX11_told_6 (by decide) (fun c6 => ?_) (fun c6 => ?_)
  · have h := Sat_pos c6 h
    refine r_aload_n dX11_told_16 0 rfl ?_
    refine r_iload_n dX11_told_17 1 rfl ?_
    refine r_bipush (v := 10) dX11_told_18 (by decide) ?_
    refine r_isub dX11_told_20 ?_
    obtain ⟨x21, e21, h⟩ := Sat_bind h
    refine r_cV (t := 12) [.int (l1 - (10 : Int32))] [] (m_X11_isPerson a0 (l1 - (10 : Int32)) μ e21) ck_X11_isPerson lk_X11_309 in_X11_isPerson se_X11_isPerson (kd_of e21) ⟨rfl, by decide, by decide⟩ rfl rfl (Nat.le_of_ble_eq_true rfl) ⟨by decide, by decide⟩ ⟨Nat.zero_le _, Nat.zero_le _⟩ dX11_told_21 ?_
    refine r_if_eq 44 dX11_told_24 (by decide) (fun c24 => ?_) (fun c24 => ?_)
    · have h := Sat_pos c24 h
      refine r_aload_n dX11_told_44 0 rfl ?_
      refine r_iload_n dX11_told_45 1 rfl ?_
      refine r_bipush (v := 20) dX11_told_46 (by decide) ?_
      refine r_isub dX11_told_48 ?_
      obtain ⟨x49, e49, h⟩ := Sat_bind h
      refine r_cV (t := 12) [.int (l1 - (20 : Int32))] [] (m_X11_isPerson a0 (l1 - (20 : Int32)) μ e49) ck_X11_isPerson lk_X11_309 in_X11_isPerson se_X11_isPerson (kd_of e49) ⟨rfl, by decide, by decide⟩ rfl rfl (Nat.le_of_ble_eq_true rfl) ⟨by decide, by decide⟩ ⟨Nat.zero_le _, Nat.zero_le _⟩ dX11_told_49 ?_
      refine r_if_eq 67 dX11_told_52 (by decide) (fun c52 => ?_) (fun c52 => ?_)
      · have h := Sat_pos c52 h
        refine r_aload_n dX11_told_67 0 rfl ?_
        refine r_iload_n dX11_told_68 1 rfl ?_
        refine r_bipush (v := 30) dX11_told_69 (by decide) ?_
        refine r_isub dX11_told_71 ?_
        obtain ⟨x72, e72, h⟩ := Sat_bind h
        refine r_cV (t := 12) [.int (l1 - (30 : Int32))] [] (m_X11_isFact a0 (l1 - (30 : Int32)) μ e72) ck_X11_isFact lk_X11_315 in_X11_isFact se_X11_isFact (kd_of e72) ⟨rfl, by decide, by decide⟩ rfl rfl (Nat.le_of_ble_eq_true rfl) ⟨by decide, by decide⟩ ⟨Nat.zero_le _, Nat.zero_le _⟩ dX11_told_72 ?_
        refine r_if_eq 90 dX11_told_75 (by decide) (fun c75 => ?_) (fun c75 => ?_)
        · have h := Sat_pos c75 h
          refine r_aload_n dX11_told_90 0 rfl ?_
          refine r_iload_n dX11_told_91 1 rfl ?_
          refine r_bipush (v := 50) dX11_told_92 (by decide) ?_
          refine r_isub dX11_told_94 ?_
          obtain ⟨x95, e95, h⟩ := Sat_bind h
          refine r_cV (t := 12) [.int (l1 - (50 : Int32))] [] (m_X11_isFact a0 (l1 - (50 : Int32)) μ e95) ck_X11_isFact lk_X11_315 in_X11_isFact se_X11_isFact (kd_of e95) ⟨rfl, by decide, by decide⟩ rfl rfl (Nat.le_of_ble_eq_true rfl) ⟨by decide, by decide⟩ ⟨Nat.zero_le _, Nat.zero_le _⟩ dX11_told_95 ?_
          refine r_if_eq 113 dX11_told_98 (by decide) (fun c98 => ?_) (fun c98 => ?_)
          · have h := Sat_pos c98 h
            refine r_iconst (v := -1) dX11_told_113 (by decide) ?_
            exact r_ireturn rfl (by rw [← Sat_eq h]; exact ⟨rfl, rfl⟩) dX11_told_114
          · have h := Sat_neg c98 h
            refine r_aload_n dX11_told_101 0 rfl ?_
            obtain ⟨x102, e102, h⟩ := Sat_bind h
            refine r_getP fk_X11_31 rfl e102 dX11_told_102 ?_
            refine r_iload_n dX11_told_105 1 rfl ?_
            refine r_bipush (v := 50) dX11_told_106 (by decide) ?_
            refine r_isub dX11_told_108 ?_
            obtain ⟨x109, e109, h⟩ := Sat_bind h
            refine r_iaload e109 dX11_told_109 ?_
            refine r_goto 114 dX11_told_110 (by decide) ?_
            exact r_ireturn rfl (by rw [← Sat_eq h]; exact ⟨rfl, rfl⟩) dX11_told_114
        · have h := Sat_neg c75 h
          refine r_aload_n dX11_told_78 0 rfl ?_
          obtain ⟨x79, e79, h⟩ := Sat_bind h
          refine r_getP fk_X11_28 rfl e79 dX11_told_79 ?_
          refine r_iload_n dX11_told_82 1 rfl ?_
          refine r_bipush (v := 30) dX11_told_83 (by decide) ?_
          refine r_isub dX11_told_85 ?_
          obtain ⟨x86, e86, h⟩ := Sat_bind h
          refine r_iaload e86 dX11_told_86 ?_
          refine r_goto 114 dX11_told_87 (by decide) ?_
          exact r_ireturn rfl (by rw [← Sat_eq h]; exact ⟨rfl, rfl⟩) dX11_told_114
      · have h := Sat_neg c52 h
        refine r_aload_n dX11_told_55 0 rfl ?_
        obtain ⟨x56, e56, h⟩ := Sat_bind h
        refine r_getP fk_X11_25 rfl e56 dX11_told_56 ?_
        refine r_iload_n dX11_told_59 1 rfl ?_
        refine r_bipush (v := 20) dX11_told_60 (by decide) ?_
        refine r_isub dX11_told_62 ?_
        obtain ⟨x63, e63, h⟩ := Sat_bind h
        refine r_iaload e63 dX11_told_63 ?_
        refine r_iconst (v := 1) dX11_told_64 (by decide) ?_
        refine r_isub dX11_told_65 ?_
        exact r_ireturn rfl (by rw [← Sat_eq h]; exact ⟨rfl, rfl⟩) dX11_told_66
    · have h := Sat_neg c24 h
      refine r_aload_n dX11_told_27 0 rfl ?_
      refine r_iload_n dX11_told_28 1 rfl ?_
      refine r_bipush (v := 10) dX11_told_29 (by decide) ?_
      refine r_isub dX11_told_31 ?_
      obtain ⟨x32, e32, h⟩ := Sat_bind h
      refine r_cV (t := 12) [.int (l1 - (10 : Int32))] [] (m_X11_isAlone a0 (l1 - (10 : Int32)) μ e32) ck_X11_isAlone lk_X11_312 in_X11_isAlone se_X11_isAlone (kd_of e32) ⟨rfl, by decide, by decide⟩ rfl rfl (Nat.le_of_ble_eq_true rfl) ⟨by decide, by decide⟩ ⟨Nat.zero_le _, Nat.zero_le _⟩ dX11_told_32 ?_
      refine r_if_eq 42 dX11_told_35 (by decide) (fun c35 => ?_) (fun c35 => ?_)
      · have h := Sat_pos c35 h
        refine r_iconst (v := 0) dX11_told_42 (by decide) ?_
        exact r_ireturn rfl (by rw [← Sat_eq h]; exact ⟨rfl, rfl⟩) dX11_told_43
      · have h := Sat_neg c35 h
        refine r_iconst (v := 1) dX11_told_38 (by decide) ?_
        refine r_goto 43 dX11_told_39 (by decide) ?_
        exact r_ireturn rfl (by rw [← Sat_eq h]; exact ⟨rfl, rfl⟩) dX11_told_43
  · have h := Sat_neg c6 h
    refine r_aload_n dX11_told_9 0 rfl ?_
    obtain ⟨x10, e10, h⟩ := Sat_bind h
    refine r_getP fk_X11_17 rfl e10 dX11_told_10 ?_
    refine r_iload_n dX11_told_13 1 rfl ?_
    obtain ⟨x14, e14, h⟩ := Sat_bind h
    refine r_iaload e14 dX11_told_14 ?_
    exact r_ireturn rfl (by rw [← Sat_eq h]; exact ⟨rfl, rfl⟩) dX11_told_15
theorem dX11_town_0 : decode cX11_town 0 = .ok (.aload_n 0, 1) := by decide +kernel
theorem dX11_town_1 : decode cX11_town 1 = .ok (.invokevirtual 300, 3) := by decide +kernel
theorem dX11_town_4 : decode cX11_town 4 = .ok (.aload_n 0, 1) := by decide +kernel
theorem dX11_town_5 : decode cX11_town 5 = .ok (.iconst 0, 1) := by decide +kernel
theorem dX11_town_6 : decode cX11_town 6 = .ok (.putfield 211, 3) := by decide +kernel
theorem dX11_town_9 : decode cX11_town 9 = .ok (.aload_n 0, 1) := by decide +kernel
theorem dX11_town_10 : decode cX11_town 10 = .ok (.iconst (-1), 1) := by decide +kernel
theorem dX11_town_11 : decode cX11_town 11 = .ok (.putfield 13, 3) := by decide +kernel
theorem dX11_town_14 : decode cX11_town 14 = .ok (.aload_n 0, 1) := by decide +kernel
theorem dX11_town_15 : decode cX11_town 15 = .ok (.invokevirtual 149, 3) := by decide +kernel
theorem dX11_town_18 : decode cX11_town 18 = .ok (.iconst 0, 1) := by decide +kernel
theorem dX11_town_19 : decode cX11_town 19 = .ok (.istore_n 1, 1) := by decide +kernel
theorem dX11_town_20 : decode cX11_town 20 = .ok (.aload_n 0, 1) := by decide +kernel
theorem dX11_town_21 : decode cX11_town 21 = .ok (.getfield 186, 3) := by decide +kernel
theorem dX11_town_24 : decode cX11_town 24 = .ok (.iconst 4, 1) := by decide +kernel
theorem dX11_town_25 : decode cX11_town 25 = .ok (.if_icmp .eq 38, 3) := by decide +kernel
theorem dX11_town_28 : decode cX11_town 28 = .ok (.aload_n 0, 1) := by decide +kernel
theorem dX11_town_29 : decode cX11_town 29 = .ok (.invokevirtual 303, 3) := by decide +kernel
theorem dX11_town_32 : decode cX11_town 32 = .ok (.ifCond .ne 5, 3) := by decide +kernel
theorem dX11_town_35 : decode cX11_town 35 = .ok (.iconst (-1), 1) := by decide +kernel
theorem dX11_town_36 : decode cX11_town 36 = .ok (.ireturn, 1) := by decide +kernel
theorem dX11_town_37 : decode cX11_town 37 = .ok (.aload_n 0, 1) := by decide +kernel
theorem dX11_town_38 : decode cX11_town 38 = .ok (.getfield 186, 3) := by decide +kernel
theorem dX11_town_41 : decode cX11_town 41 = .ok (.iconst 3, 1) := by decide +kernel
theorem dX11_town_42 : decode cX11_town 42 = .ok (.if_icmp .eq 11, 3) := by decide +kernel
theorem dX11_town_45 : decode cX11_town 45 = .ok (.aload_n 0, 1) := by decide +kernel
theorem dX11_town_46 : decode cX11_town 46 = .ok (.iconst 1, 1) := by decide +kernel
theorem dX11_town_47 : decode cX11_town 47 = .ok (.invokevirtual 214, 3) := by decide +kernel
theorem dX11_town_50 : decode cX11_town 50 = .ok (.pop, 1) := by decide +kernel
theorem dX11_town_51 : decode cX11_town 51 = .ok (.iconst (-1), 1) := by decide +kernel
theorem dX11_town_52 : decode cX11_town 52 = .ok (.ireturn, 1) := by decide +kernel
theorem dX11_town_53 : decode cX11_town 53 = .ok (.aload_n 0, 1) := by decide +kernel
theorem dX11_town_54 : decode cX11_town 54 = .ok (.invokevirtual 224, 3) := by decide +kernel
theorem dX11_town_57 : decode cX11_town 57 = .ok (.iinc 1 1, 3) := by decide +kernel
theorem dX11_town_60 : decode cX11_town 60 = .ok (.goto (-40), 3) := by decide +kernel
theorem dX11_town_63 : decode cX11_town 63 = .ok (.aload_n 0, 1) := by decide +kernel
theorem dX11_town_64 : decode cX11_town 64 = .ok (.iconst 0, 1) := by decide +kernel
theorem dX11_town_65 : decode cX11_town 65 = .ok (.iconst 0, 1) := by decide +kernel
theorem dX11_town_66 : decode cX11_town 66 = .ok (.invokevirtual 297, 3) := by decide +kernel
theorem dX11_town_69 : decode cX11_town 69 = .ok (.ifCond .ne 11, 3) := by decide +kernel
theorem dX11_town_72 : decode cX11_town 72 = .ok (.aload_n 0, 1) := by decide +kernel
theorem dX11_town_73 : decode cX11_town 73 = .ok (.iconst 4, 1) := by decide +kernel
theorem dX11_town_74 : decode cX11_town 74 = .ok (.invokevirtual 214, 3) := by decide +kernel
theorem dX11_town_77 : decode cX11_town 77 = .ok (.pop, 1) := by decide +kernel
theorem dX11_town_78 : decode cX11_town 78 = .ok (.iconst (-1), 1) := by decide +kernel
theorem dX11_town_79 : decode cX11_town 79 = .ok (.ireturn, 1) := by decide +kernel
theorem dX11_town_80 : decode cX11_town 80 = .ok (.aload_n 0, 1) := by decide +kernel
theorem dX11_town_81 : decode cX11_town 81 = .ok (.invokevirtual 152, 3) := by decide +kernel
theorem dX11_town_84 : decode cX11_town 84 = .ok (.aload_n 0, 1) := by decide +kernel
theorem dX11_town_85 : decode cX11_town 85 = .ok (.iload_n 1, 1) := by decide +kernel
theorem dX11_town_86 : decode cX11_town 86 = .ok (.putfield 306, 3) := by decide +kernel
theorem dX11_town_89 : decode cX11_town 89 = .ok (.iload_n 1, 1) := by decide +kernel
theorem dX11_town_90 : decode cX11_town 90 = .ok (.ireturn, 1) := by decide +kernel
noncomputable def f_X11_town_J63 (a0 : Nat) (l1 : Int32) (μ : Mm) : Option (Int32 × Mm) :=
  (f_X11_canAll 10 a0 (0 : Int32) (0 : Int32) μ).bind fun x66 => if x66 = 0 then (f_X11_fails a0 (4 : Int32) μ).bind fun x74 => some ((-1 : Int32), x74.2) else (f_X11_settle a0 μ).bind fun x81 => (pf_I 12 30 a0 l1 x81).bind fun μ86 => some (l1, μ86)
noncomputable def f_X11_town_J45 (a0 : Nat) (μ : Mm) : Option (Int32 × Mm) :=
  (f_X11_fails a0 (1 : Int32) μ).bind fun x47 => some ((-1 : Int32), x47.2)
noncomputable def f_X11_town_L20 (a0 : Nat) (s20 : Int32 × Mm) : Option ((Int32 × Mm) ⊕ ((Mm) ⊕ ((Mm) ⊕ (Int32 × Mm)))) :=
  (gf_I 12 3 a0 s20.2).bind fun x21 => if x21 = (4 : Int32) then some (.inr (.inr (.inr (s20.1, s20.2)))) else (f_X11_readClause a0 s20.2).bind fun x29 => if x29.1 = 0 then some (.inr (.inl x29.2)) else (gf_I 12 3 a0 x29.2).bind fun x38 => if x38 = (3 : Int32) then (f_X11_scan a0 x29.2).bind fun x54 => (some (s20.1 + (1 : Int32))).bind fun v57 => some (.inl (v57, x54)) else some (.inr (.inr (.inl x29.2)))
noncomputable def f_X11_town (a0 : Nat) (μ : Mm) : Option (Int32 × Mm) :=
  if (mm_K μ a0).1 = 12 then (f_X11_takeTape a0 μ).bind fun x1 => (pf_I 12 8 a0 (0 : Int32) x1).bind fun μ6 => (pf_I 12 9 a0 (-1 : Int32) μ6).bind fun μ11 => (f_X11_begin a0 μ11).bind fun x15 => (whl (f_X11_town_L20 a0) ((0 : Int32), x15)).bind (sm (fun b20 => some ((-1 : Int32), b20)) (sm (fun b20 => f_X11_town_J45 a0 b20) (fun b20 => f_X11_town_J63 a0 b20.1 b20.2))) else none
abbrev Rn_X11_town (G : Gv) (Q : Option Value → Mm → Prop) (pc : Nat) (lv : List (Nat × Value)) (st : List Value) (μ : Mm) : Prop := Rn G RX11 cX11_town 2 (some .int) "town" (rmd 13 0 0) (Zm G 0 0 Q) 0 0 pc lv st μ
set_option maxRecDepth 100000 in
set_option maxHeartbeats 4000000 in
theorem m_X11_town {G : Gv} (a0 : Nat) (μ : Mm) {r : (Int32 × Mm)} (hx : f_X11_town a0 μ = some r) : Mt G yX11_town cX11_town 2 (some .int) 13 0 0 [.ref a0] μ (fun v μ' => v = some (.int r.1) ∧ μ' = r.2) := by
  refine Mt.of (by decide) (Nat.le_of_ble_eq_true rfl) ?_
  show Rn_X11_town G (fun v μ' => v = some (.int r.1) ∧ μ' = r.2) 0 [(0, .ref a0)] [] μ
  obtain ⟨_, h⟩ := Sat_ifp (show Sat (f_X11_town a0 μ) (fun x => x = r) from ⟨_, hx, rfl⟩)
  have J63 : ∀ (a0_63 : Nat) (l1_63 : Int32) (μ_63 : Mm), Sat (f_X11_town_J63 a0_63 l1_63 μ_63) (fun x => x = r) → Rn_X11_town G (fun v μ' => v = some (.int r.1) ∧ μ' = r.2) 63 [(0, .ref a0_63), (1, .int l1_63)] [] μ_63 := by
    intro a0_63 l1_63 μ_63 h
    refine r_aload_n dX11_town_63 0 rfl ?_
    refine r_iconst (v := 0) dX11_town_64 (by decide) ?_
    refine r_iconst (v := 0) dX11_town_65 (by decide) ?_
    obtain ⟨x66, e66, h⟩ := Sat_bind h
    refine r_cV (t := 12) [.int (0 : Int32), .int (0 : Int32)] [] (m_X11_canAll 10 a0_63 (0 : Int32) (0 : Int32) μ_63 e66) ck_X11_canAll lk_X11_297 in_X11_canAll se_X11_canAll (kd_X11_canAll e66) ⟨rfl, by decide, by decide⟩ rfl rfl (Nat.le_of_ble_eq_true rfl) ⟨by decide, by decide⟩ ⟨Nat.zero_le _, Nat.zero_le _⟩ dX11_town_66 ?_
    refine r_if_ne 80 dX11_town_69 (by decide) (fun c69 => ?_) (fun c69 => ?_)
    · have h := Sat_neg c69 h
      refine r_aload_n dX11_town_80 0 rfl ?_
      obtain ⟨x81, e81, h⟩ := Sat_bind h
      refine r_cV (t := 12) [] [] (m_X11_settle a0_63 μ_63 e81) ck_X11_settle lk_X11_152 in_X11_settle se_X11_settle (kd_of e81) ⟨rfl, by decide, by decide⟩ rfl rfl (Nat.le_of_ble_eq_true rfl) ⟨by decide, by decide⟩ ⟨Nat.zero_le _, Nat.zero_le _⟩ dX11_town_81 ?_
      refine r_aload_n dX11_town_84 0 rfl ?_
      refine r_iload_n dX11_town_85 1 rfl ?_
      obtain ⟨μ86, e86, h⟩ := Sat_bind h
      refine r_putI fk_X11_306 rfl rfl e86 dX11_town_86 ?_
      refine r_iload_n dX11_town_89 1 rfl ?_
      exact r_ireturn rfl (by rw [← Sat_eq h]; exact ⟨rfl, rfl⟩) dX11_town_90
    · have h := Sat_pos c69 h
      refine r_aload_n dX11_town_72 0 rfl ?_
      refine r_iconst (v := 4) dX11_town_73 (by decide) ?_
      obtain ⟨x74, e74, h⟩ := Sat_bind h
      refine r_cV (t := 12) [.int (4 : Int32)] [] (m_X11_fails a0_63 (4 : Int32) μ_63 e74) ck_X11_fails lk_X11_214 in_X11_fails se_X11_fails (kd_of e74) ⟨rfl, by decide, by decide⟩ rfl rfl (Nat.le_of_ble_eq_true rfl) ⟨by decide, by decide⟩ ⟨Nat.zero_le _, Nat.zero_le _⟩ dX11_town_74 ?_
      refine r_pop dX11_town_77 rfl ?_
      refine r_iconst (v := -1) dX11_town_78 (by decide) ?_
      exact r_ireturn rfl (by rw [← Sat_eq h]; exact ⟨rfl, rfl⟩) dX11_town_79
  have J45 : ∀ (a0_45 : Nat) (μ_45 : Mm), Sat (f_X11_town_J45 a0_45 μ_45) (fun x => x = r) → Rn_X11_town G (fun v μ' => v = some (.int r.1) ∧ μ' = r.2) 45 [(0, .ref a0_45)] [] μ_45 := by
    intro a0_45 μ_45 h
    refine r_aload_n dX11_town_45 0 rfl ?_
    refine r_iconst (v := 1) dX11_town_46 (by decide) ?_
    obtain ⟨x47, e47, h⟩ := Sat_bind h
    refine r_cV (t := 12) [.int (1 : Int32)] [] (m_X11_fails a0_45 (1 : Int32) μ_45 e47) ck_X11_fails lk_X11_214 in_X11_fails se_X11_fails (kd_of e47) ⟨rfl, by decide, by decide⟩ rfl rfl (Nat.le_of_ble_eq_true rfl) ⟨by decide, by decide⟩ ⟨Nat.zero_le _, Nat.zero_le _⟩ dX11_town_47 ?_
    refine r_pop dX11_town_50 rfl ?_
    refine r_iconst (v := -1) dX11_town_51 (by decide) ?_
    exact r_ireturn rfl (by rw [← Sat_eq h]; exact ⟨rfl, rfl⟩) dX11_town_52
  refine r_aload_n dX11_town_0 0 rfl ?_
  obtain ⟨x1, e1, h⟩ := Sat_bind h
  refine r_cV (t := 12) [] [] (m_X11_takeTape a0 μ e1) ck_X11_takeTape lk_X11_300 in_X11_takeTape se_X11_takeTape (kd_of e1) ⟨rfl, by decide, by decide⟩ rfl rfl (Nat.le_of_ble_eq_true rfl) ⟨by decide, by decide⟩ ⟨Nat.zero_le _, Nat.zero_le _⟩ dX11_town_1 ?_
  refine r_aload_n dX11_town_4 0 rfl ?_
  refine r_iconst (v := 0) dX11_town_5 (by decide) ?_
  obtain ⟨μ6, e6, h⟩ := Sat_bind h
  refine r_putI fk_X11_211 rfl rfl e6 dX11_town_6 ?_
  refine r_aload_n dX11_town_9 0 rfl ?_
  refine r_iconst (v := -1) dX11_town_10 (by decide) ?_
  obtain ⟨μ11, e11, h⟩ := Sat_bind h
  refine r_putI fk_X11_13 rfl rfl e11 dX11_town_11 ?_
  refine r_aload_n dX11_town_14 0 rfl ?_
  obtain ⟨x15, e15, h⟩ := Sat_bind h
  refine r_cV (t := 12) [] [] (m_X11_begin a0 μ11 e15) ck_X11_begin lk_X11_149 in_X11_begin se_X11_begin (kd_of e15) ⟨rfl, by decide, by decide⟩ rfl rfl (Nat.le_of_ble_eq_true rfl) ⟨by decide, by decide⟩ ⟨Nat.zero_le _, Nat.zero_le _⟩ dX11_town_15 ?_
  refine r_iconst (v := 0) dX11_town_18 (by decide) ?_
  refine r_istore_n (lv' := [(1, .int (0 : Int32)), (0, .ref a0)]) dX11_town_19 rfl (by decide) rfl ?_
  refine r_sub (lv' := [(0, .ref a0), (1, .int (0 : Int32))]) [1, 0] rfl ?_
  refine whl_K (s0 := (((0 : Int32), x15) : Int32 × Mm)) (RR := fun (s20 : Int32 × Mm) => Rn_X11_town G (fun v μ' => v = some (.int r.1) ∧ μ' = r.2) 20 [(0, .ref a0), (1, .int s20.1)] [] s20.2) ?_ (Sat_bindK h)
  intro s20 K20 hI20 hX20 h
  refine r_aload_n dX11_town_20 0 rfl ?_
  obtain ⟨x21, e21, h⟩ := Sat_bind h
  refine r_getI fk_X11_186 rfl e21 dX11_town_21 ?_
  refine r_iconst (v := 4) dX11_town_24 (by decide) ?_
  refine r_icmp_eq 63 dX11_town_25 (by decide) (fun c25 => ?_) (fun c25 => ?_)
  · have h := Sat_pos c25 h
    have h := hX20 _ (Sat_some h)
    exact r_sub [0, 1] rfl (J63 a0 s20.1 s20.2 h)
  · have h := Sat_neg c25 h
    refine r_aload_n dX11_town_28 0 rfl ?_
    obtain ⟨x29, e29, h⟩ := Sat_bind h
    refine r_cV (t := 12) [] [] (m_X11_readClause a0 s20.2 e29) ck_X11_readClause lk_X11_303 in_X11_readClause se_X11_readClause (kd_of e29) ⟨rfl, by decide, by decide⟩ rfl rfl (Nat.le_of_ble_eq_true rfl) ⟨by decide, by decide⟩ ⟨Nat.zero_le _, Nat.zero_le _⟩ dX11_town_29 ?_
    refine r_if_ne 37 dX11_town_32 (by decide) (fun c32 => ?_) (fun c32 => ?_)
    · have h := Sat_neg c32 h
      refine r_aload_n dX11_town_37 0 rfl ?_
      obtain ⟨x38, e38, h⟩ := Sat_bind h
      refine r_getI fk_X11_186 rfl e38 dX11_town_38 ?_
      refine r_iconst (v := 3) dX11_town_41 (by decide) ?_
      refine r_icmp_eq 53 dX11_town_42 (by decide) (fun c42 => ?_) (fun c42 => ?_)
      · have h := Sat_pos c42 h
        refine r_aload_n dX11_town_53 0 rfl ?_
        obtain ⟨x54, e54, h⟩ := Sat_bind h
        refine r_cV (t := 12) [] [] (m_X11_scan a0 x29.2 e54) ck_X11_scan lk_X11_224 in_X11_scan se_X11_scan (kd_of e54) ⟨rfl, by decide, by decide⟩ rfl rfl (Nat.le_of_ble_eq_true rfl) ⟨by decide, by decide⟩ ⟨Nat.zero_le _, Nat.zero_le _⟩ dX11_town_54 ?_
        obtain ⟨v57, e57, h⟩ := Sat_bind h
        refine r_iinc (j := 1) (v := v57) (lv' := [(1, .int v57), (0, .ref a0)]) dX11_town_57 rfl (iinc_v e57 (by decide)) (by decide) rfl ?_
        refine r_goto 20 dX11_town_60 (by decide) ?_
        exact r_sub [1, 0] rfl (hI20 _ (Sat_some h))
      · have h := Sat_neg c42 h
        have h := hX20 _ (Sat_some h)
        exact r_sub [0] rfl (J45 a0 x29.2 h)
    · have h := Sat_pos c32 h
      have h := hX20 _ (Sat_some h)
      refine r_iconst (v := -1) dX11_town_35 (by decide) ?_
      exact r_ireturn rfl (by rw [← Sat_eq h]; exact ⟨rfl, rfl⟩) dX11_town_36
theorem dX11_turn_0 : decode cX11_turn 0 = .ok (.iload_n 1, 1) := by decide +kernel
theorem dX11_turn_1 : decode cX11_turn 1 = .ok (.iconst 0, 1) := by decide +kernel
theorem dX11_turn_2 : decode cX11_turn 2 = .ok (.aload_n 0, 1) := by decide +kernel
theorem dX11_turn_3 : decode cX11_turn 3 = .ok (.getfield 234, 3) := by decide +kernel
theorem dX11_turn_6 : decode cX11_turn 6 = .ok (.iconst 1, 1) := by decide +kernel
theorem dX11_turn_7 : decode cX11_turn 7 = .ok (.isub, 1) := by decide +kernel
theorem dX11_turn_8 : decode cX11_turn 8 = .ok (.invokestatic 217, 3) := by decide +kernel
theorem dX11_turn_11 : decode cX11_turn 11 = .ok (.ifCond .ne 6, 3) := by decide +kernel
theorem dX11_turn_14 : decode cX11_turn 14 = .ok (.bipush (-2), 2) := by decide +kernel
theorem dX11_turn_16 : decode cX11_turn 16 = .ok (.ireturn, 1) := by decide +kernel
theorem dX11_turn_17 : decode cX11_turn 17 = .ok (.aload_n 0, 1) := by decide +kernel
theorem dX11_turn_18 : decode cX11_turn 18 = .ok (.iload_n 1, 1) := by decide +kernel
theorem dX11_turn_19 : decode cX11_turn 19 = .ok (.putfield 241, 3) := by decide +kernel
theorem dX11_turn_22 : decode cX11_turn 22 = .ok (.iconst 1, 1) := by decide +kernel
theorem dX11_turn_23 : decode cX11_turn 23 = .ok (.ireturn, 1) := by decide +kernel
noncomputable def f_X11_turn (a0 : Nat) (l1 : Int32) (μ : Mm) : Option (Int32 × Mm) :=
  if (mm_K μ a0).1 = 12 then (gf_I 12 32 a0 μ).bind fun x3 => (f_X11_in l1 (0 : Int32) (x3 - (1 : Int32)) μ).bind fun x8 => if x8 = 0 then some ((-2 : Int32), μ) else (pf_I 12 33 a0 l1 μ).bind fun μ19 => some ((1 : Int32), μ19) else none
abbrev Rn_X11_turn (G : Gv) (Q : Option Value → Mm → Prop) (pc : Nat) (lv : List (Nat × Value)) (st : List Value) (μ : Mm) : Prop := Rn G RX11 cX11_turn 2 (some .int) "turn" (rmd 1 0 0) (Zm G 0 0 Q) 0 0 pc lv st μ
set_option maxRecDepth 100000 in
set_option maxHeartbeats 4000000 in
theorem m_X11_turn {G : Gv} (a0 : Nat) (l1 : Int32) (μ : Mm) {r : (Int32 × Mm)} (hx : f_X11_turn a0 l1 μ = some r) : Mt G yX11_turn cX11_turn 2 (some .int) 1 0 0 [.ref a0, .int l1] μ (fun v μ' => v = some (.int r.1) ∧ μ' = r.2) := by
  refine Mt.of (by decide) (Nat.le_of_ble_eq_true rfl) ?_
  show Rn_X11_turn G (fun v μ' => v = some (.int r.1) ∧ μ' = r.2) 0 [(0, .ref a0), (1, .int l1)] [] μ
  obtain ⟨_, h⟩ := Sat_ifp (show Sat (f_X11_turn a0 l1 μ) (fun x => x = r) from ⟨_, hx, rfl⟩)
  refine r_iload_n dX11_turn_0 1 rfl ?_
  refine r_iconst (v := 0) dX11_turn_1 (by decide) ?_
  refine r_aload_n dX11_turn_2 0 rfl ?_
  obtain ⟨x3, e3, h⟩ := Sat_bind h
  refine r_getI fk_X11_234 rfl e3 dX11_turn_3 ?_
  refine r_iconst (v := 1) dX11_turn_6 (by decide) ?_
  refine r_isub dX11_turn_7 ?_
  obtain ⟨x8, e8, h⟩ := Sat_bind h
  refine r_cS [.int l1, .int (0 : Int32), .int (x3 - (1 : Int32))] [] (m_X11_in l1 (0 : Int32) (x3 - (1 : Int32)) μ e8) ck_X11_in lk_X11_217 st_X11_in rfl rfl (Nat.le_of_ble_eq_true rfl) ⟨by decide, by decide⟩ ⟨Nat.zero_le _, Nat.zero_le _⟩ dX11_turn_8 ?_
  refine r_if_ne 17 dX11_turn_11 (by decide) (fun c11 => ?_) (fun c11 => ?_)
  · have h := Sat_neg c11 h
    refine r_aload_n dX11_turn_17 0 rfl ?_
    refine r_iload_n dX11_turn_18 1 rfl ?_
    obtain ⟨μ19, e19, h⟩ := Sat_bind h
    refine r_putI fk_X11_241 rfl rfl e19 dX11_turn_19 ?_
    refine r_iconst (v := 1) dX11_turn_22 (by decide) ?_
    exact r_ireturn rfl (by rw [← Sat_eq h]; exact ⟨rfl, rfl⟩) dX11_turn_23
  · have h := Sat_pos c11 h
    refine r_bipush (v := -2) dX11_turn_14 (by decide) ?_
    exact r_ireturn rfl (by rw [← Sat_eq h]; exact ⟨rfl, rfl⟩) dX11_turn_16
theorem dX11_turnings_0 : decode cX11_turnings 0 = .ok (.aload_n 0, 1) := by decide +kernel
theorem dX11_turnings_1 : decode cX11_turnings 1 = .ok (.getfield 234, 3) := by decide +kernel
theorem dX11_turnings_4 : decode cX11_turnings 4 = .ok (.ireturn, 1) := by decide +kernel
noncomputable def f_X11_turnings (a0 : Nat) (μ : Mm) : Option Int32 :=
  if (mm_K μ a0).1 = 12 then (gf_I 12 32 a0 μ).bind fun x1 => some x1 else none
abbrev Rn_X11_turnings (G : Gv) (Q : Option Value → Mm → Prop) (pc : Nat) (lv : List (Nat × Value)) (st : List Value) (μ : Mm) : Prop := Rn G RX11 cX11_turnings 1 (some .int) "turnings" (rmd 0 0 0) (Zm G 0 0 Q) 0 0 pc lv st μ
set_option maxRecDepth 100000 in
set_option maxHeartbeats 4000000 in
theorem m_X11_turnings {G : Gv} (a0 : Nat) (μ : Mm) {r : Int32} (hx : f_X11_turnings a0 μ = some r) : Mt G yX11_turnings cX11_turnings 1 (some .int) 0 0 0 [.ref a0] μ (fun v μ' => v = some (.int r) ∧ μ' = μ) := by
  refine Mt.of (by decide) (Nat.le_of_ble_eq_true rfl) ?_
  show Rn_X11_turnings G (fun v μ' => v = some (.int r) ∧ μ' = μ) 0 [(0, .ref a0)] [] μ
  obtain ⟨_, h⟩ := Sat_ifp (show Sat (f_X11_turnings a0 μ) (fun x => x = r) from ⟨_, hx, rfl⟩)
  refine r_aload_n dX11_turnings_0 0 rfl ?_
  obtain ⟨x1, e1, h⟩ := Sat_bind h
  refine r_getI fk_X11_234 rfl e1 dX11_turnings_1 ?_
  exact r_ireturn rfl (by rw [← Sat_eq h]; exact ⟨rfl, rfl⟩) dX11_turnings_4
theorem dX11_wishes_0 : decode cX11_wishes 0 = .ok (.aload_n 0, 1) := by decide +kernel
theorem dX11_wishes_1 : decode cX11_wishes 1 = .ok (.getfield 17, 3) := by decide +kernel
theorem dX11_wishes_4 : decode cX11_wishes 4 = .ok (.bipush 9, 2) := by decide +kernel
theorem dX11_wishes_6 : decode cX11_wishes 6 = .ok (.iaload, 1) := by decide +kernel
theorem dX11_wishes_7 : decode cX11_wishes 7 = .ok (.ireturn, 1) := by decide +kernel
noncomputable def f_X11_wishes (a0 : Nat) (μ : Mm) : Option Int32 :=
  if (mm_K μ a0).1 = 12 then (gf_P 12 12 a0 μ).bind fun x1 => (ga_I x1 (9 : Int32) μ).bind fun x6 => some x6 else none
abbrev Rn_X11_wishes (G : Gv) (Q : Option Value → Mm → Prop) (pc : Nat) (lv : List (Nat × Value)) (st : List Value) (μ : Mm) : Prop := Rn G RX11 cX11_wishes 1 (some .int) "wishes" (rmd 0 0 0) (Zm G 0 0 Q) 0 0 pc lv st μ
set_option maxRecDepth 100000 in
set_option maxHeartbeats 4000000 in
theorem m_X11_wishes {G : Gv} (a0 : Nat) (μ : Mm) {r : Int32} (hx : f_X11_wishes a0 μ = some r) : Mt G yX11_wishes cX11_wishes 1 (some .int) 0 0 0 [.ref a0] μ (fun v μ' => v = some (.int r) ∧ μ' = μ) := by
  refine Mt.of (by decide) (Nat.le_of_ble_eq_true rfl) ?_
  show Rn_X11_wishes G (fun v μ' => v = some (.int r) ∧ μ' = μ) 0 [(0, .ref a0)] [] μ
  obtain ⟨_, h⟩ := Sat_ifp (show Sat (f_X11_wishes a0 μ) (fun x => x = r) from ⟨_, hx, rfl⟩)
  refine r_aload_n dX11_wishes_0 0 rfl ?_
  obtain ⟨x1, e1, h⟩ := Sat_bind h
  refine r_getP fk_X11_17 rfl e1 dX11_wishes_1 ?_
  refine r_bipush (v := 9) dX11_wishes_4 (by decide) ?_
  obtain ⟨x6, e6, h⟩ := Sat_bind h
  refine r_iaload e6 dX11_wishes_6 ?_
  exact r_ireturn rfl (by rw [← Sat_eq h]; exact ⟨rfl, rfl⟩) dX11_wishes_7
