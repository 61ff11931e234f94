/-- the memory at the law's start: the script alone -/
def m_0 (b L : Nat) (xs : Nat → Int32) (S : Nat → Nat) (N : Nat) : Mm := (fun a => if a = b then xs else fun _ => 0, fun _ _ => 0, fun _ _ => none, fun a => if a = b then (19, L) else (0, 0), S, N, 0)
theorem fl_m {T : Cond} {w : Cond} (i : Nat) (h : (flatC T)[i]? = some w) : w ∈ flatC T := List.mem_of_getElem? h
theorem st_ex0 : ∀ i, i < 14 → (flatC (Jvm.Cond.and given_1 narrow_1))[[9, 19, 30, 40, 51, 62, 75, 89, 104, 121, 137, 155, 174, 195].getD i 0]? = some (Cond.exactly (.string (s_own i) (s_ix i)) "java/lang/String") := by decide +kernel
theorem st_co0 : ∀ i, i < 14 → (flatC (Jvm.Cond.and given_1 narrow_1))[[10, 20, 31, 41, 52, 63, 76, 90, 105, 122, 138, 156, 175, 196].getD i 0]? = some (Cond.eq (.field (.string (s_own i) (s_ix i)) "java/lang/String" "coder" "B") (.int 0)) := by decide +kernel
theorem st_ar0 : ∀ i, i < 14 → (flatC (Jvm.Cond.and given_1 narrow_1))[[11, 21, 32, 42, 53, 64, 77, 91, 106, 123, 139, 157, 176, 197].getD i 0]? = some (Cond.arrayOf (.field (.string (s_own i) (s_ix i)) "java/lang/String" "value" "[B") .byte) := by decide +kernel
theorem st_le0 : ∀ i, i < 14 → (flatC (Jvm.Cond.and given_1 narrow_1))[[12, 22, 33, 43, 54, 65, 78, 92, 107, 124, 140, 158, 177, 198].getD i 0]? = some (Cond.eq (.length (.field (.string (s_own i) (s_ix i)) "java/lang/String" "value" "[B")) (.int (Int32.ofNat (s_ln.getD i 0)))) := by decide +kernel
def st_elp : List (List Nat) := [[13, 14, 15, 16, 17, 18], [23, 24, 25, 26, 27, 28], [34, 35, 36, 37], [44, 45, 46, 47], [55, 56, 57], [66, 67, 68, 69], [79, 80, 81, 82], [93, 94, 95, 96], [108, 109, 110, 111, 112], [125, 126, 127], [141, 142, 143, 144], [159, 160, 161, 162], [178, 179, 180, 181, 182], [199, 200, 201, 202, 203, 204, 205, 206, 207, 208, 209, 210, 211, 212, 213, 214, 215, 216, 217, 218, 219, 220, 221, 222, 223, 224, 225, 226, 227, 228, 229, 230, 231, 232, 233, 234, 235, 236, 237, 238, 239, 240, 241, 242, 243, 244, 245, 246, 247, 248, 249, 250, 251, 252, 253, 254, 255, 256, 257, 258, 259, 260, 261, 262, 263, 264, 265, 266, 267]]
def st_nep : List (List Nat) := [[0, 29, 38, 48, 58, 70, 83, 97, 113, 128, 145, 163, 183, 268], [0, 0, 39, 49, 59, 71, 84, 98, 114, 129, 146, 164, 184, 269], [0, 0, 0, 50, 60, 72, 85, 99, 115, 130, 147, 165, 185, 270], [0, 0, 0, 0, 61, 73, 86, 100, 116, 131, 148, 166, 186, 271], [0, 0, 0, 0, 0, 74, 87, 101, 117, 132, 149, 167, 187, 272], [0, 0, 0, 0, 0, 0, 88, 102, 118, 133, 150, 168, 188, 273], [0, 0, 0, 0, 0, 0, 0, 103, 119, 134, 151, 169, 189, 274], [0, 0, 0, 0, 0, 0, 0, 0, 120, 135, 152, 170, 190, 275], [0, 0, 0, 0, 0, 0, 0, 0, 0, 136, 153, 171, 191, 276], [0, 0, 0, 0, 0, 0, 0, 0, 0, 0, 154, 172, 192, 277], [0, 0, 0, 0, 0, 0, 0, 0, 0, 0, 0, 173, 193, 278], [0, 0, 0, 0, 0, 0, 0, 0, 0, 0, 0, 0, 194, 279], [0, 0, 0, 0, 0, 0, 0, 0, 0, 0, 0, 0, 0, 280], [0, 0, 0, 0, 0, 0, 0, 0, 0, 0, 0, 0, 0, 0]]
theorem st_el0 : ∀ j, j < s_ln.getD 0 0 → (flatC (Jvm.Cond.and given_1 narrow_1))[(st_elp.getD 0 []).getD j 0]? = some (Cond.eq (.elem (.field (.string (s_own 0) (s_ix 0)) "java/lang/String" "value" "[B") (.int (Int32.ofNat j))) (.int ((s_by.getD 0 []).getD j 0))) := by decide +kernel
theorem st_el1 : ∀ j, j < s_ln.getD 1 0 → (flatC (Jvm.Cond.and given_1 narrow_1))[(st_elp.getD 1 []).getD j 0]? = some (Cond.eq (.elem (.field (.string (s_own 1) (s_ix 1)) "java/lang/String" "value" "[B") (.int (Int32.ofNat j))) (.int ((s_by.getD 1 []).getD j 0))) := by decide +kernel
theorem st_el2 : ∀ j, j < s_ln.getD 2 0 → (flatC (Jvm.Cond.and given_1 narrow_1))[(st_elp.getD 2 []).getD j 0]? = some (Cond.eq (.elem (.field (.string (s_own 2) (s_ix 2)) "java/lang/String" "value" "[B") (.int (Int32.ofNat j))) (.int ((s_by.getD 2 []).getD j 0))) := by decide +kernel
theorem st_el3 : ∀ j, j < s_ln.getD 3 0 → (flatC (Jvm.Cond.and given_1 narrow_1))[(st_elp.getD 3 []).getD j 0]? = some (Cond.eq (.elem (.field (.string (s_own 3) (s_ix 3)) "java/lang/String" "value" "[B") (.int (Int32.ofNat j))) (.int ((s_by.getD 3 []).getD j 0))) := by decide +kernel
theorem st_el4 : ∀ j, j < s_ln.getD 4 0 → (flatC (Jvm.Cond.and given_1 narrow_1))[(st_elp.getD 4 []).getD j 0]? = some (Cond.eq (.elem (.field (.string (s_own 4) (s_ix 4)) "java/lang/String" "value" "[B") (.int (Int32.ofNat j))) (.int ((s_by.getD 4 []).getD j 0))) := by decide +kernel
theorem st_el5 : ∀ j, j < s_ln.getD 5 0 → (flatC (Jvm.Cond.and given_1 narrow_1))[(st_elp.getD 5 []).getD j 0]? = some (Cond.eq (.elem (.field (.string (s_own 5) (s_ix 5)) "java/lang/String" "value" "[B") (.int (Int32.ofNat j))) (.int ((s_by.getD 5 []).getD j 0))) := by decide +kernel
theorem st_el6 : ∀ j, j < s_ln.getD 6 0 → (flatC (Jvm.Cond.and given_1 narrow_1))[(st_elp.getD 6 []).getD j 0]? = some (Cond.eq (.elem (.field (.string (s_own 6) (s_ix 6)) "java/lang/String" "value" "[B") (.int (Int32.ofNat j))) (.int ((s_by.getD 6 []).getD j 0))) := by decide +kernel
theorem st_el7 : ∀ j, j < s_ln.getD 7 0 → (flatC (Jvm.Cond.and given_1 narrow_1))[(st_elp.getD 7 []).getD j 0]? = some (Cond.eq (.elem (.field (.string (s_own 7) (s_ix 7)) "java/lang/String" "value" "[B") (.int (Int32.ofNat j))) (.int ((s_by.getD 7 []).getD j 0))) := by decide +kernel
theorem st_el8 : ∀ j, j < s_ln.getD 8 0 → (flatC (Jvm.Cond.and given_1 narrow_1))[(st_elp.getD 8 []).getD j 0]? = some (Cond.eq (.elem (.field (.string (s_own 8) (s_ix 8)) "java/lang/String" "value" "[B") (.int (Int32.ofNat j))) (.int ((s_by.getD 8 []).getD j 0))) := by decide +kernel
theorem st_el9 : ∀ j, j < s_ln.getD 9 0 → (flatC (Jvm.Cond.and given_1 narrow_1))[(st_elp.getD 9 []).getD j 0]? = some (Cond.eq (.elem (.field (.string (s_own 9) (s_ix 9)) "java/lang/String" "value" "[B") (.int (Int32.ofNat j))) (.int ((s_by.getD 9 []).getD j 0))) := by decide +kernel
theorem st_el10 : ∀ j, j < s_ln.getD 10 0 → (flatC (Jvm.Cond.and given_1 narrow_1))[(st_elp.getD 10 []).getD j 0]? = some (Cond.eq (.elem (.field (.string (s_own 10) (s_ix 10)) "java/lang/String" "value" "[B") (.int (Int32.ofNat j))) (.int ((s_by.getD 10 []).getD j 0))) := by decide +kernel
theorem st_el11 : ∀ j, j < s_ln.getD 11 0 → (flatC (Jvm.Cond.and given_1 narrow_1))[(st_elp.getD 11 []).getD j 0]? = some (Cond.eq (.elem (.field (.string (s_own 11) (s_ix 11)) "java/lang/String" "value" "[B") (.int (Int32.ofNat j))) (.int ((s_by.getD 11 []).getD j 0))) := by decide +kernel
theorem st_el12 : ∀ j, j < s_ln.getD 12 0 → (flatC (Jvm.Cond.and given_1 narrow_1))[(st_elp.getD 12 []).getD j 0]? = some (Cond.eq (.elem (.field (.string (s_own 12) (s_ix 12)) "java/lang/String" "value" "[B") (.int (Int32.ofNat j))) (.int ((s_by.getD 12 []).getD j 0))) := by decide +kernel
theorem st_el13 : ∀ j, j < s_ln.getD 13 0 → (flatC (Jvm.Cond.and given_1 narrow_1))[(st_elp.getD 13 []).getD j 0]? = some (Cond.eq (.elem (.field (.string (s_own 13) (s_ix 13)) "java/lang/String" "value" "[B") (.int (Int32.ofNat j))) (.int ((s_by.getD 13 []).getD j 0))) := by decide +kernel
theorem st_el : ∀ i, i < 14 → ∀ j, j < s_ln.getD i 0 → Cond.eq (.elem (.field (.string (s_own i) (s_ix i)) "java/lang/String" "value" "[B") (.int (Int32.ofNat j))) (.int ((s_by.getD i []).getD j 0)) ∈ flatC (Jvm.Cond.and given_1 narrow_1)
  | 0, _, j, hj => fl_m _ (st_el0 j hj)
  | 1, _, j, hj => fl_m _ (st_el1 j hj)
  | 2, _, j, hj => fl_m _ (st_el2 j hj)
  | 3, _, j, hj => fl_m _ (st_el3 j hj)
  | 4, _, j, hj => fl_m _ (st_el4 j hj)
  | 5, _, j, hj => fl_m _ (st_el5 j hj)
  | 6, _, j, hj => fl_m _ (st_el6 j hj)
  | 7, _, j, hj => fl_m _ (st_el7 j hj)
  | 8, _, j, hj => fl_m _ (st_el8 j hj)
  | 9, _, j, hj => fl_m _ (st_el9 j hj)
  | 10, _, j, hj => fl_m _ (st_el10 j hj)
  | 11, _, j, hj => fl_m _ (st_el11 j hj)
  | 12, _, j, hj => fl_m _ (st_el12 j hj)
  | 13, _, j, hj => fl_m _ (st_el13 j hj)
  | n + 14, h, _, _ => absurd h (by omega)
theorem st_ne0 : ∀ j, j < 14 → 0 < j → (flatC (Jvm.Cond.and given_1 narrow_1))[(st_nep.getD 0 []).getD j 0]? = some (Cond.not (Cond.eq (.string (s_own 0) (s_ix 0)) (.string (s_own j) (s_ix j)))) := by decide +kernel
theorem st_ne1 : ∀ j, j < 14 → 1 < j → (flatC (Jvm.Cond.and given_1 narrow_1))[(st_nep.getD 1 []).getD j 0]? = some (Cond.not (Cond.eq (.string (s_own 1) (s_ix 1)) (.string (s_own j) (s_ix j)))) := by decide +kernel
theorem st_ne2 : ∀ j, j < 14 → 2 < j → (flatC (Jvm.Cond.and given_1 narrow_1))[(st_nep.getD 2 []).getD j 0]? = some (Cond.not (Cond.eq (.string (s_own 2) (s_ix 2)) (.string (s_own j) (s_ix j)))) := by decide +kernel
theorem st_ne3 : ∀ j, j < 14 → 3 < j → (flatC (Jvm.Cond.and given_1 narrow_1))[(st_nep.getD 3 []).getD j 0]? = some (Cond.not (Cond.eq (.string (s_own 3) (s_ix 3)) (.string (s_own j) (s_ix j)))) := by decide +kernel
theorem st_ne4 : ∀ j, j < 14 → 4 < j → (flatC (Jvm.Cond.and given_1 narrow_1))[(st_nep.getD 4 []).getD j 0]? = some (Cond.not (Cond.eq (.string (s_own 4) (s_ix 4)) (.string (s_own j) (s_ix j)))) := by decide +kernel
theorem st_ne5 : ∀ j, j < 14 → 5 < j → (flatC (Jvm.Cond.and given_1 narrow_1))[(st_nep.getD 5 []).getD j 0]? = some (Cond.not (Cond.eq (.string (s_own 5) (s_ix 5)) (.string (s_own j) (s_ix j)))) := by decide +kernel
theorem st_ne6 : ∀ j, j < 14 → 6 < j → (flatC (Jvm.Cond.and given_1 narrow_1))[(st_nep.getD 6 []).getD j 0]? = some (Cond.not (Cond.eq (.string (s_own 6) (s_ix 6)) (.string (s_own j) (s_ix j)))) := by decide +kernel
theorem st_ne7 : ∀ j, j < 14 → 7 < j → (flatC (Jvm.Cond.and given_1 narrow_1))[(st_nep.getD 7 []).getD j 0]? = some (Cond.not (Cond.eq (.string (s_own 7) (s_ix 7)) (.string (s_own j) (s_ix j)))) := by decide +kernel
theorem st_ne8 : ∀ j, j < 14 → 8 < j → (flatC (Jvm.Cond.and given_1 narrow_1))[(st_nep.getD 8 []).getD j 0]? = some (Cond.not (Cond.eq (.string (s_own 8) (s_ix 8)) (.string (s_own j) (s_ix j)))) := by decide +kernel
theorem st_ne9 : ∀ j, j < 14 → 9 < j → (flatC (Jvm.Cond.and given_1 narrow_1))[(st_nep.getD 9 []).getD j 0]? = some (Cond.not (Cond.eq (.string (s_own 9) (s_ix 9)) (.string (s_own j) (s_ix j)))) := by decide +kernel
theorem st_ne10 : ∀ j, j < 14 → 10 < j → (flatC (Jvm.Cond.and given_1 narrow_1))[(st_nep.getD 10 []).getD j 0]? = some (Cond.not (Cond.eq (.string (s_own 10) (s_ix 10)) (.string (s_own j) (s_ix j)))) := by decide +kernel
theorem st_ne11 : ∀ j, j < 14 → 11 < j → (flatC (Jvm.Cond.and given_1 narrow_1))[(st_nep.getD 11 []).getD j 0]? = some (Cond.not (Cond.eq (.string (s_own 11) (s_ix 11)) (.string (s_own j) (s_ix j)))) := by decide +kernel
theorem st_ne12 : ∀ j, j < 14 → 12 < j → (flatC (Jvm.Cond.and given_1 narrow_1))[(st_nep.getD 12 []).getD j 0]? = some (Cond.not (Cond.eq (.string (s_own 12) (s_ix 12)) (.string (s_own j) (s_ix j)))) := by decide +kernel
theorem st_neL : ∀ i, i < 14 → ∀ j, j < 14 → i < j → Cond.not (Cond.eq (.string (s_own i) (s_ix i)) (.string (s_own j) (s_ix j))) ∈ flatC (Jvm.Cond.and given_1 narrow_1)
  | 0, _, j, hj, hij => fl_m _ (st_ne0 j hj hij)
  | 1, _, j, hj, hij => fl_m _ (st_ne1 j hj hij)
  | 2, _, j, hj, hij => fl_m _ (st_ne2 j hj hij)
  | 3, _, j, hj, hij => fl_m _ (st_ne3 j hj hij)
  | 4, _, j, hj, hij => fl_m _ (st_ne4 j hj hij)
  | 5, _, j, hj, hij => fl_m _ (st_ne5 j hj hij)
  | 6, _, j, hj, hij => fl_m _ (st_ne6 j hj hij)
  | 7, _, j, hj, hij => fl_m _ (st_ne7 j hj hij)
  | 8, _, j, hj, hij => fl_m _ (st_ne8 j hj hij)
  | 9, _, j, hj, hij => fl_m _ (st_ne9 j hj hij)
  | 10, _, j, hj, hij => fl_m _ (st_ne10 j hj hij)
  | 11, _, j, hj, hij => fl_m _ (st_ne11 j hj hij)
  | 12, _, j, hj, hij => fl_m _ (st_ne12 j hj hij)
  | n + 13, h, j, hj, hij => absurd h (by omega)
theorem st_ne (i : Nat) (hi : i < 14) (j : Nat) (hj : j < 14) (h : i ≠ j) : Cond.not (Cond.eq (.string (s_own i) (s_ix i)) (.string (s_own j) (s_ix j))) ∈ flatC (Jvm.Cond.and given_1 narrow_1) ∨ Cond.not (Cond.eq (.string (s_own j) (s_ix j)) (.string (s_own i) (s_ix i))) ∈ flatC (Jvm.Cond.and given_1 narrow_1) := by
  rcases Nat.lt_or_gt_of_ne h with h | h
  · exact Or.inl (st_neL i hi j hj h)
  · exact Or.inr (st_neL j hj i hi h)
theorem st_sr : ∀ i, i < 14 → Cond.stringRef (s_own i) (s_ix i) (s_tx i) ∈ lw_tbl := by decide +kernel
theorem st_w1 : Cond.arrayOver (.object RX3) ∈ lw_tbl := by decide +kernel
theorem st_w2 : Cond.arrayOver (.array .long) ∈ lw_tbl := by decide +kernel
theorem st_w3 : Cond.laysStatic "java/lang/String" "COMPACT_STRINGS" "Z" ∈ lw_tbl := by decide +kernel
theorem st_w4 : Cond.initialized "java/lang/String" ∈ lw_tbl := by decide +kernel
theorem st_w5 : Cond.laysStatic "jdk/internal/util/Preconditions" "SIOOBE_FORMATTER" "Ljava/util/function/BiFunction;" ∈ lw_tbl := by decide +kernel
theorem st_w6 : Cond.initialized "jdk/internal/util/Preconditions" ∈ lw_tbl := by decide +kernel
theorem st_n1 : Cond.eq (.static "java/lang/String" "COMPACT_STRINGS" "Z") (.int 1) ∈ flatC (Jvm.Cond.and given_1 narrow_1) := by decide +kernel
theorem st_n2 : Cond.isRef (.static "jdk/internal/util/Preconditions" "SIOOBE_FORMATTER" "Ljava/util/function/BiFunction;") ∈ flatC (Jvm.Cond.and given_1 narrow_1) := by decide +kernel
set_option maxRecDepth 100000 in
set_option maxHeartbeats 4000000 in
/-- the law's walk out of what the models say -/
theorem whole_of (MATH : ∀ (b L : Nat) (xs : Nat → Int32) (S : Nat → Nat) (N : Nat), L ≤ 3072 → b < N → (∀ i j, i < 14 → j < 14 → S i = S j → i = j) → ∃ r, f_L_law b (m_0 b L xs S N) = some r ∧ mm_N r.2 ≤ N + 600000 ∧ mm_Z r.2 ≤ 7302250) {p : Program} {e : Env} {s : State} {m : MethodId} {below : List Frame} {meth : Method} {c : Code} (l : Launch) {b L : Nat} {xs : Nat → Int32} (hL : L ≤ 3072) (C0 : lw_At p s m meth c b L xs) : W p l e room_1 s m #[Value.ref b] below meth c s.heap [] 0 0 (lw_Z below #[Value.ref b] s) (entryFrame m ([Value.ref b] : List Value).toArray 4) := by
  obtain ⟨hx, hb, hr, hml, hown, hts, hX, hbl, hlocks, hgv⟩ := id C0
  have hs := flat_of_before _ hgv
  have hA : ∀ a : Nat, a < s.heap.size → ¬ s.heap.size ≤ a := fun a h => by omega
  obtain ⟨adK, adV, hE, hK⟩ := vk_Sof (args := #[Value.ref b]) (s := s) (N := 14) (tm := fun i => Term.string (s_own i) (s_ix i)) (len := s_ln) (byt := s_by) (A := fun q => s.heap.size ≤ q) s_lnb (fun i hi => hs _ (fl_m _ (st_ex0 i hi))) (fun i hi => hs _ (fl_m _ (st_co0 i hi))) (fun i hi => hs _ (fl_m _ (st_ar0 i hi))) (fun i hi => hs _ (fl_m _ (st_le0 i hi))) (fun i hi j hj => hs _ (st_el i hi j hj)) (fun i j hi hj hij => (st_ne i hi j hj hij).elim (fun h => Or.inl (hs _ h)) (fun h => Or.inr (hs _ h))) hA
  obtain ⟨S, hS1, hS2⟩ : ∃ S : Nat → Nat, (∀ i, i < 14 → S i = adK i) ∧ ∀ i, i < 14 → S (14 + i) = adV i := by
    refine ⟨fun i => if i < 14 then adK i else adV (i - 14), fun i hi => if_pos hi, fun i hi => ?_⟩
    show (if 14 + i < 14 then _ else _) = _
    rw [if_neg (by omega), show 14 + i - 14 = i by omega]
  have hEx : Ex (s.heap.size, S) s := by
    refine ⟨fun i hi => ?_, fun w hw => va_Nw.of ?_ (hts w (List.mem_filter.mp hw).1), va_AO.of (hts _ st_w1), hts _ st_w2⟩
    · show vk_R _ _ _ (S i) s
      rw [hS1 i hi]
      have h1 := hts _ (st_sr i hi)
      have h2 := hK i hi
      exact vk_R.of h1 h2
    · have := (List.mem_filter.mp hw).2
      cases w <;> first | rfl | (simp [is_ns] at this)
  have hSim : Sim (s.heap.size, S) s (m_0 b L xs S s.heap.size) s.heap := by
    have eK : ∀ a, mm_K (m_0 b L xs S s.heap.size) a = if a = b then (19, L) else (0, 0) := fun _ => rfl
    refine ⟨fun a h1 h2 => ?_, fun a h1 h2 => ?_, fun a h1 => ?_, rfl, Nat.le_refl _, rfl, ?_, va_Zof (hts _ st_w3) (hts _ st_w4) (va_eqi (hs _ st_n1)) hA, va_Zqof (hts _ st_w5) (hts _ st_w6) (hs _ st_n2) hA⟩
    · rw [eK] at h1 h2
      split at h1 <;> split at h2 <;> omega
    · rw [eK] at h1 h2
      split at h1 <;> split at h2 <;> omega
    · rw [eK] at h1
      split at h1
      · rename_i hab
        subst hab
        refine ⟨hbl, ?_⟩
        rw [eK, if_pos rfl]
        have e : mm_I (m_0 a L xs S s.heap.size) a = xs := if_pos rfl
        rw [e]
        exact hX
      · exact absurd h1 (by decide)
    · refine ⟨fun i hi => ?_, fun i j hi hj h => ?_⟩
      · show va_O _ (S i) _ _ _ ∧ va_OF _ _ _ _ (S i) _ _ _ ∧ va_OF _ _ _ (.ref (S (14 + i))) (S i) _ _ _ ∧ va_T _ (S (14 + i)) _ _ _ _ _
        rw [hS1 i hi, hS2 i hi]
        exact hE.1 i hi
      · have h : S i = S j := h
        rw [hS1 i hi, hS1 j hj] at h
        exact hE.2 i j hi hj h
  obtain ⟨r, m1, m2, m3⟩ := MATH b L xs S s.heap.size hL hbl (fun i j hi hj h => by
    rw [hS1 i hi, hS1 j hj] at h
    exact hE.2 i j hi hj h)
  have hR := w_L_law (G := (s.heap.size, S)) (nm := meth.name) b (m_0 b L xs S s.heap.size) m1 m2 (by rw [show mm_Z (m_0 b L xs S s.heap.size) = 0 from rfl, Nat.zero_add]; exact m3)
  rw [lg_entry_eq]
  have k := hR p l e s m #[Value.ref b] below meth c s.heap [] _ ⟨hx, hb, hml, hr, hlocks, hown, fun w hw => hts w (List.mem_filter.mp hw).1, rfl, hEx⟩ hSim (fun q h => by cases h) (lv_entry [.ref b] (n := 4) (Nat.le_of_ble_eq_true rfl))
  intro T hT X
  obtain ⟨t, a1, b1⟩ := k T hT X
  exact ⟨t, a1, b1 rfl (Nat.le_refl _)⟩
