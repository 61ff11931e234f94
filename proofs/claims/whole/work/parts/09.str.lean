/-! ===== System.arraycopy over int arrays; the string constants, and their methods ===== -/
def ms_A (μ : Mm) (a : Nat) (f : Nat → Int32) : Mm := (u1 μ.1 a f, μ.2)
def cp_I (src : Nat) (sp : Int32) (dst : Nat) (dp n : Int32) (μ : Mm) : Option Mm := if (mm_K μ src).1 = 20 ∧ (mm_K μ dst).1 = 20 ∧ 0 ≤ sp.toInt ∧ 0 ≤ dp.toInt ∧ 0 ≤ n.toInt ∧ sp.toInt + n.toInt ≤ (mm_K μ src).2 ∧ dp.toInt + n.toInt ≤ (mm_K μ dst).2 then some (ms_A μ dst (va_cpy (mm_I μ src) (mm_I μ dst) sp.toNatClampNeg dp.toNatClampNeg n.toNatClampNeg)) else none
theorem r_copyI {G : Gv} {own : String} {cc : ByteArray} {nL : Nat} {ret : Option FieldType} {nm : String} {R : Room} {Z : Zt} {cells slots pc : Nat} {lv : List (Nat × Value)} {μ μ' : Mm} {idx src dst : Nat} {st : List Value} {sp dp n : Int32} (hx : cp_I src sp dst dp n μ = some μ') (h1 : Cond.methodLink own idx arraycopyName ∈ lw_ok) (h2 : Cond.native arraycopyName ∈ lw_ok) (h3 : Cond.static arraycopyName ∈ lw_ok) (h4 : Cond.initialized "java/lang/System" ∈ lw_ok) (hW : (st.map fun v => v.category).sum ≤ 8) (hR : 1 ≤ R.frames ∧ 64 ≤ R.locals) (hd : decode cc pc = .ok (.invokestatic idx, 3))
    (kk : Rn G own cc nL ret nm R Z cells slots (pc + 3) lv st μ') : Rn G own cc nL ret nm R Z cells slots pc lv (.int n :: .int dp :: .ref dst :: .int sp :: .ref src :: st) μ :=
  fun p l e s m args below meth c H locs ls C hS hL hl => by
    unfold cp_I at hx
    split at hx
    · rename_i hg
      cases hx
      obtain ⟨g1, g2, g3, g4, g5, g6, g7⟩ := hg
      obtain ⟨ha0, c0, k1, k2, k3⟩ := hS.2.1 src (by omega) (by omega)
      obtain ⟨ha, c1, k4, k5, k6⟩ := hS.2.1 dst (by omega) (by omega)
      rw [g1] at k1 k2 k3
      rw [g2] at k4 k5 k6
      have hts := C.2.2.2.2.2.2.1
      have ng : ∀ z : Int32, 0 ≤ z.toInt → ¬ z < 0 := fun z hz h => by
        have := Int32.lt_iff_toInt_lt.mp h
        have h0 : (0 : Int32).toInt = 0 := by decide
        omega
      have nn : ∀ z : Int32, 0 ≤ z.toInt → z.toInt = (z.toNatClampNeg : Int) := fun z hz => (Int.toNat_of_nonneg hz).symm
      have e1 := nn sp g3
      have e2 := nn dp g4
      have e3 := nn n g5
      intro T hT X
      obtain ⟨-, q0, hk0, cm0, hkk0⟩ := k1 (mm_K μ src).2 (fun k => fv (aty 20) (mm_I μ src k) (mm_L μ src k) (mm_P μ src k))
      obtain ⟨-, q1, hk1, cm1, hkk1⟩ := k4 (mm_K μ dst).2 (fun k => fv (aty 20) (mm_I μ dst k) (mm_L μ dst k) (mm_P μ dst k))
      obtain ⟨vm', X', step⟩ := X.arraycopy C.1 C.2.2.2.2.2.1 (hts _ h1) (hts _ h2) (hts _ h3) (hts _ h4) (src := src) (dst := dst) (srcPos := sp) (destPos := dp) (n := n) (by rw [hT]; exact k3) (by rw [hT]; exact k6)
        (fun _ h => by cases h) (fun _ h => by cases h) (fun h => by cases h) (fun h => by cases h) hk0 hk1 hkk0 hkk1 (by decide) (ng sp g3) (ng dp g4) (ng n g5)
        (by rw [arrV_size]; omega) (by rw [arrV_size]; omega)
        (fun vm₁ _ i hi => by
          have e : (arrV c0 (mm_K μ src).2 (fun k => fv (aty 20) (mm_I μ src k) (mm_L μ src k) (mm_P μ src k))).slots.getD (sp.toNatClampNeg + i) .null = .int (mm_I μ src (sp.toNatClampNeg + i)) := by
            rw [Array.getD_eq_getD_getElem?, arrV_read _ _ (by omega)]
            rfl
          rw [e]
          exact ⟨rfl, trivial⟩)
        (g := F0 m pc ls (.int n :: .int dp :: .ref dst :: .int sp :: .ref src :: st)) rfl (by rw [C.2.2.1]; exact hl.1) (rest := st) rfl (by rw [C.2.1]; exact hd) hR.1 (by
          have h9 : nativeFrameWords "java/lang/System" "arraycopy" 5 = 7 := by decide
          rw [h9]
          have := lv_room (m := m) (pc := pc) (ls := ls) (rest := .int n :: .int dp :: .ref dst :: .int sp :: .ref src :: st) hW
          omega)
      have e9 : copied (arrV c0 (mm_K μ src).2 (fun k => fv (aty 20) (mm_I μ src k) (mm_L μ src k) (mm_P μ src k))) (arrV c1 (mm_K μ dst).2 (fun k => fv (aty 20) (mm_I μ dst k) (mm_L μ dst k) (mm_P μ dst k))) sp dp n = arrV c1 (mm_K μ dst).2 (fun j => .int (va_cpy (mm_I μ src) (mm_I μ dst) sp.toNatClampNeg dp.toNatClampNeg n.toNatClampNeg j)) :=
        va_copied (fun z => .int z) c0 c1 (mm_I μ src) (mm_I μ dst) (by omega)
      rw [e9] at X' step
      have hlt : dst < H.size := (Array.getElem?_eq_some_iff.mp k6).1
      generalize hH1 : H.setIfInBounds dst (arrV c1 (mm_K μ dst).2 (fun j => .int (va_cpy (mm_I μ src) (mm_I μ dst) sp.toNatClampNeg dp.toNatClampNeg n.toNatClampNeg j))) = H1
      have hheap : ((T.setVm vm').setCell dst (arrV c1 (mm_K μ dst).2 (fun j => .int (va_cpy (mm_I μ src) (mm_I μ dst) sp.toNatClampNeg dp.toNatClampNeg n.toNatClampNeg j)))).heap = H1 := by rw [← hH1, ← hT]; rfl
      have oq : ∀ q : Nat, q ≠ dst → H1[q]? = H[q]? := fun q hq => by rw [← hH1]; simp [Array.getElem?_setIfInBounds, Ne.symm hq]
      have oa : H1[dst]? = some (arrV c1 (mm_K μ dst).2 (fun j => .int (va_cpy (mm_I μ src) (mm_I μ dst) sp.toNatClampNeg dp.toNatClampNeg n.toNatClampNeg j))) := by rw [← hH1]; simp [Array.getElem?_setIfInBounds, hlt]
      have hS' : Sim G s (ms_A μ dst (va_cpy (mm_I μ src) (mm_I μ dst) sp.toNatClampNeg dp.toNatClampNeg n.toNatClampNeg)) H1 := by
        refine hS.one ha (by rw [← hH1]; simp) oq rfl rfl rfl (fun b hb => u1_n _ _ hb) (fun _ _ => rfl) (fun _ _ => rfl) (fun _ h9 => by omega) (fun _ _ => ?_)
        rw [g2]
        refine ⟨c1, k4, k5, oa.trans ?_⟩
        congr 2
        funext j
        show _ = Value.int (u1 μ.1 dst _ dst j)
        rw [u1_s]
      obtain ⟨t, a1, b1⟩ := kk p l e s m args below meth c H1 _ ls C hS' (fun q hq => by
        rcases List.mem_append.mp hq with h | h
        · exact hL q h
        · obtain ⟨z, -, hz⟩ := List.mem_map.mp h
          rw [← hz]
          exact ha) hl _ hheap X'
      exact ⟨t, step t a1, b1⟩
    · cases hx
def sx_ix (a : Nat) (μ : Mm) : Option Nat := (List.range 14).find? (fun i => mm_S μ i == a)
def sx_len (a : Nat) (μ : Mm) : Option Int32 := (sx_ix a μ).map (fun i => nI (s_ln.getD i 0))
def sx_at (a : Nat) (j : Int32) (μ : Mm) : Option Int32 := (sx_ix a μ).bind fun i => if 0 ≤ j.toInt ∧ j.toInt < s_ln.getD i 0 then some ((s_by.getD i []).getD j.toNatClampNeg 0) else none
theorem sx_ix_s {a i : Nat} {μ : Mm} (h : sx_ix a μ = some i) : i < 14 ∧ mm_S μ i = a := by
  have h1 := List.find?_some h
  have h2 := List.mem_of_find?_eq_some h
  exact ⟨List.mem_range.mp h2, by simpa using h1⟩
theorem sx_len_ix {a : Nat} {μ : Mm} {x : Int32} (h : sx_len a μ = some x) : ∃ i, i < 14 ∧ mm_S μ i = a := by
  unfold sx_len at h
  cases hi : sx_ix a μ with
  | none => rw [hi] at h; cases h
  | some i => exact ⟨i, sx_ix_s hi⟩
theorem sx_at_ix {a : Nat} {j : Int32} {μ : Mm} {x : Int32} (h : sx_at a j μ = some x) : ∃ i, i < 14 ∧ mm_S μ i = a := by
  unfold sx_at at h
  cases hi : sx_ix a μ with
  | none => rw [hi] at h; cases h
  | some i => exact ⟨i, sx_ix_s hi⟩
theorem tab_out5 {x : Int32} (h0 : ¬ x = 0) (h1 : ¬ x = 1) (h2 : ¬ x = 2) (h3 : ¬ x = 3) (h4 : ¬ x = 4) : x.toInt < 0 ∨ 4 < x.toInt := by
  have q0 : x.toInt ≠ 0 := fun he => h0 (Int32.toInt_inj.mp (he.trans (by decide)))
  have q1 : x.toInt ≠ 1 := fun he => h1 (Int32.toInt_inj.mp (he.trans (by decide)))
  have q2 : x.toInt ≠ 2 := fun he => h2 (Int32.toInt_inj.mp (he.trans (by decide)))
  have q3 : x.toInt ≠ 3 := fun he => h3 (Int32.toInt_inj.mp (he.trans (by decide)))
  have q4 : x.toInt ≠ 4 := fun he => h4 (Int32.toInt_inj.mp (he.trans (by decide)))
  omega
theorem tab_out6 {x : Int32} (h0 : ¬ x = 0) (h1 : ¬ x = 1) (h2 : ¬ x = 2) (h3 : ¬ x = 3) (h4 : ¬ x = 4) (h5 : ¬ x = 5) : x.toInt < 0 ∨ 5 < x.toInt := by
  have q0 : x.toInt ≠ 0 := fun he => h0 (Int32.toInt_inj.mp (he.trans (by decide)))
  have q1 : x.toInt ≠ 1 := fun he => h1 (Int32.toInt_inj.mp (he.trans (by decide)))
  have q2 : x.toInt ≠ 2 := fun he => h2 (Int32.toInt_inj.mp (he.trans (by decide)))
  have q3 : x.toInt ≠ 3 := fun he => h3 (Int32.toInt_inj.mp (he.trans (by decide)))
  have q4 : x.toInt ≠ 4 := fun he => h4 (Int32.toInt_inj.mp (he.trans (by decide)))
  have q5 : x.toInt ≠ 5 := fun he => h5 (Int32.toInt_inj.mp (he.trans (by decide)))
  omega
theorem tab_out8 {x : Int32} (h0 : ¬ x = 0) (h1 : ¬ x = 1) (h2 : ¬ x = 2) (h3 : ¬ x = 3) (h4 : ¬ x = 4) (h5 : ¬ x = 5) (h6 : ¬ x = 6) (h7 : ¬ x = 7) : x.toInt < 0 ∨ 7 < x.toInt := by
  have q0 : x.toInt ≠ 0 := fun he => h0 (Int32.toInt_inj.mp (he.trans (by decide)))
  have q1 : x.toInt ≠ 1 := fun he => h1 (Int32.toInt_inj.mp (he.trans (by decide)))
  have q2 : x.toInt ≠ 2 := fun he => h2 (Int32.toInt_inj.mp (he.trans (by decide)))
  have q3 : x.toInt ≠ 3 := fun he => h3 (Int32.toInt_inj.mp (he.trans (by decide)))
  have q4 : x.toInt ≠ 4 := fun he => h4 (Int32.toInt_inj.mp (he.trans (by decide)))
  have q5 : x.toInt ≠ 5 := fun he => h5 (Int32.toInt_inj.mp (he.trans (by decide)))
  have q6 : x.toInt ≠ 6 := fun he => h6 (Int32.toInt_inj.mp (he.trans (by decide)))
  have q7 : x.toInt ≠ 7 := fun he => h7 (Int32.toInt_inj.mp (he.trans (by decide)))
  omega
theorem tab_out9 {x : Int32} (h0 : ¬ x = 0) (h1 : ¬ x = 1) (h2 : ¬ x = 2) (h3 : ¬ x = 3) (h4 : ¬ x = 4) (h5 : ¬ x = 5) (h6 : ¬ x = 6) (h7 : ¬ x = 7) (h8 : ¬ x = 8) : x.toInt < 0 ∨ 8 < x.toInt := by
  have q0 : x.toInt ≠ 0 := fun he => h0 (Int32.toInt_inj.mp (he.trans (by decide)))
  have q1 : x.toInt ≠ 1 := fun he => h1 (Int32.toInt_inj.mp (he.trans (by decide)))
  have q2 : x.toInt ≠ 2 := fun he => h2 (Int32.toInt_inj.mp (he.trans (by decide)))
  have q3 : x.toInt ≠ 3 := fun he => h3 (Int32.toInt_inj.mp (he.trans (by decide)))
  have q4 : x.toInt ≠ 4 := fun he => h4 (Int32.toInt_inj.mp (he.trans (by decide)))
  have q5 : x.toInt ≠ 5 := fun he => h5 (Int32.toInt_inj.mp (he.trans (by decide)))
  have q6 : x.toInt ≠ 6 := fun he => h6 (Int32.toInt_inj.mp (he.trans (by decide)))
  have q7 : x.toInt ≠ 7 := fun he => h7 (Int32.toInt_inj.mp (he.trans (by decide)))
  have q8 : x.toInt ≠ 8 := fun he => h8 (Int32.toInt_inj.mp (he.trans (by decide)))
  omega
theorem tab_out12 {x : Int32} (h0 : ¬ x = 0) (h1 : ¬ x = 1) (h2 : ¬ x = 2) (h3 : ¬ x = 3) (h4 : ¬ x = 4) (h5 : ¬ x = 5) (h6 : ¬ x = 6) (h7 : ¬ x = 7) (h8 : ¬ x = 8) (h9 : ¬ x = 9) (h10 : ¬ x = 10) (h11 : ¬ x = 11) : x.toInt < 0 ∨ 11 < x.toInt := by
  have q0 : x.toInt ≠ 0 := fun he => h0 (Int32.toInt_inj.mp (he.trans (by decide)))
  have q1 : x.toInt ≠ 1 := fun he => h1 (Int32.toInt_inj.mp (he.trans (by decide)))
  have q2 : x.toInt ≠ 2 := fun he => h2 (Int32.toInt_inj.mp (he.trans (by decide)))
  have q3 : x.toInt ≠ 3 := fun he => h3 (Int32.toInt_inj.mp (he.trans (by decide)))
  have q4 : x.toInt ≠ 4 := fun he => h4 (Int32.toInt_inj.mp (he.trans (by decide)))
  have q5 : x.toInt ≠ 5 := fun he => h5 (Int32.toInt_inj.mp (he.trans (by decide)))
  have q6 : x.toInt ≠ 6 := fun he => h6 (Int32.toInt_inj.mp (he.trans (by decide)))
  have q7 : x.toInt ≠ 7 := fun he => h7 (Int32.toInt_inj.mp (he.trans (by decide)))
  have q8 : x.toInt ≠ 8 := fun he => h8 (Int32.toInt_inj.mp (he.trans (by decide)))
  have q9 : x.toInt ≠ 9 := fun he => h9 (Int32.toInt_inj.mp (he.trans (by decide)))
  have q10 : x.toInt ≠ 10 := fun he => h10 (Int32.toInt_inj.mp (he.trans (by decide)))
  have q11 : x.toInt ≠ 11 := fun he => h11 (Int32.toInt_inj.mp (he.trans (by decide)))
  omega
theorem tab_out38 {x : Int32} (h0 : ¬ x = 0) (h1 : ¬ x = 1) (h2 : ¬ x = 2) (h3 : ¬ x = 3) (h4 : ¬ x = 4) (h5 : ¬ x = 5) (h6 : ¬ x = 6) (h7 : ¬ x = 7) (h8 : ¬ x = 8) (h9 : ¬ x = 9) (h10 : ¬ x = 10) (h11 : ¬ x = 11) (h12 : ¬ x = 12) (h13 : ¬ x = 13) (h14 : ¬ x = 14) (h15 : ¬ x = 15) (h16 : ¬ x = 16) (h17 : ¬ x = 17) (h18 : ¬ x = 18) (h19 : ¬ x = 19) (h20 : ¬ x = 20) (h21 : ¬ x = 21) (h22 : ¬ x = 22) (h23 : ¬ x = 23) (h24 : ¬ x = 24) (h25 : ¬ x = 25) (h26 : ¬ x = 26) (h27 : ¬ x = 27) (h28 : ¬ x = 28) (h29 : ¬ x = 29) (h30 : ¬ x = 30) (h31 : ¬ x = 31) (h32 : ¬ x = 32) (h33 : ¬ x = 33) (h34 : ¬ x = 34) (h35 : ¬ x = 35) (h36 : ¬ x = 36) (h37 : ¬ x = 37) : x.toInt < 0 ∨ 37 < x.toInt := by
  have q0 : x.toInt ≠ 0 := fun he => h0 (Int32.toInt_inj.mp (he.trans (by decide)))
  have q1 : x.toInt ≠ 1 := fun he => h1 (Int32.toInt_inj.mp (he.trans (by decide)))
  have q2 : x.toInt ≠ 2 := fun he => h2 (Int32.toInt_inj.mp (he.trans (by decide)))
  have q3 : x.toInt ≠ 3 := fun he => h3 (Int32.toInt_inj.mp (he.trans (by decide)))
  have q4 : x.toInt ≠ 4 := fun he => h4 (Int32.toInt_inj.mp (he.trans (by decide)))
  have q5 : x.toInt ≠ 5 := fun he => h5 (Int32.toInt_inj.mp (he.trans (by decide)))
  have q6 : x.toInt ≠ 6 := fun he => h6 (Int32.toInt_inj.mp (he.trans (by decide)))
  have q7 : x.toInt ≠ 7 := fun he => h7 (Int32.toInt_inj.mp (he.trans (by decide)))
  have q8 : x.toInt ≠ 8 := fun he => h8 (Int32.toInt_inj.mp (he.trans (by decide)))
  have q9 : x.toInt ≠ 9 := fun he => h9 (Int32.toInt_inj.mp (he.trans (by decide)))
  have q10 : x.toInt ≠ 10 := fun he => h10 (Int32.toInt_inj.mp (he.trans (by decide)))
  have q11 : x.toInt ≠ 11 := fun he => h11 (Int32.toInt_inj.mp (he.trans (by decide)))
  have q12 : x.toInt ≠ 12 := fun he => h12 (Int32.toInt_inj.mp (he.trans (by decide)))
  have q13 : x.toInt ≠ 13 := fun he => h13 (Int32.toInt_inj.mp (he.trans (by decide)))
  have q14 : x.toInt ≠ 14 := fun he => h14 (Int32.toInt_inj.mp (he.trans (by decide)))
  have q15 : x.toInt ≠ 15 := fun he => h15 (Int32.toInt_inj.mp (he.trans (by decide)))
  have q16 : x.toInt ≠ 16 := fun he => h16 (Int32.toInt_inj.mp (he.trans (by decide)))
  have q17 : x.toInt ≠ 17 := fun he => h17 (Int32.toInt_inj.mp (he.trans (by decide)))
  have q18 : x.toInt ≠ 18 := fun he => h18 (Int32.toInt_inj.mp (he.trans (by decide)))
  have q19 : x.toInt ≠ 19 := fun he => h19 (Int32.toInt_inj.mp (he.trans (by decide)))
  have q20 : x.toInt ≠ 20 := fun he => h20 (Int32.toInt_inj.mp (he.trans (by decide)))
  have q21 : x.toInt ≠ 21 := fun he => h21 (Int32.toInt_inj.mp (he.trans (by decide)))
  have q22 : x.toInt ≠ 22 := fun he => h22 (Int32.toInt_inj.mp (he.trans (by decide)))
  have q23 : x.toInt ≠ 23 := fun he => h23 (Int32.toInt_inj.mp (he.trans (by decide)))
  have q24 : x.toInt ≠ 24 := fun he => h24 (Int32.toInt_inj.mp (he.trans (by decide)))
  have q25 : x.toInt ≠ 25 := fun he => h25 (Int32.toInt_inj.mp (he.trans (by decide)))
  have q26 : x.toInt ≠ 26 := fun he => h26 (Int32.toInt_inj.mp (he.trans (by decide)))
  have q27 : x.toInt ≠ 27 := fun he => h27 (Int32.toInt_inj.mp (he.trans (by decide)))
  have q28 : x.toInt ≠ 28 := fun he => h28 (Int32.toInt_inj.mp (he.trans (by decide)))
  have q29 : x.toInt ≠ 29 := fun he => h29 (Int32.toInt_inj.mp (he.trans (by decide)))
  have q30 : x.toInt ≠ 30 := fun he => h30 (Int32.toInt_inj.mp (he.trans (by decide)))
  have q31 : x.toInt ≠ 31 := fun he => h31 (Int32.toInt_inj.mp (he.trans (by decide)))
  have q32 : x.toInt ≠ 32 := fun he => h32 (Int32.toInt_inj.mp (he.trans (by decide)))
  have q33 : x.toInt ≠ 33 := fun he => h33 (Int32.toInt_inj.mp (he.trans (by decide)))
  have q34 : x.toInt ≠ 34 := fun he => h34 (Int32.toInt_inj.mp (he.trans (by decide)))
  have q35 : x.toInt ≠ 35 := fun he => h35 (Int32.toInt_inj.mp (he.trans (by decide)))
  have q36 : x.toInt ≠ 36 := fun he => h36 (Int32.toInt_inj.mp (he.trans (by decide)))
  have q37 : x.toInt ≠ 37 := fun he => h37 (Int32.toInt_inj.mp (he.trans (by decide)))
  omega
section RS
variable {G : Gv} {own : String} {cc : ByteArray} {nL : Nat} {ret : Option FieldType} {nm : String} {R : Room} {Z : Zt} {cells slots pc : Nat} {lv : List (Nat × Value)} {μ : Mm}
theorem r_cStr {y : MethodName} {cc' : ByteArray} {nL' d' n idx b : Nat} {ret' : Option FieldType} (As st : List Value) {stk : List Value} {rv : Option Value} {μ1 : Mm} (hM : Mt G y cc' nL' ret' d' 0 0 (.ref b :: As) μ (fun v μ' => v = rv ∧ μ' = μ1)) (hc : Ck y cc' nL' ret' n) (hlk : Lk own idx y) (hin : Cond.instanceMethod y ∈ lw_ok) (hse : Cond.selects y.cls y y ∈ lw_ok)
    (hs : ∃ i, i < 14 ∧ mm_S μ i = b) (hy : y.cls = "java/lang/String") (hn : As.length = n) (hst : stk = As.reverse ++ .ref b :: st) (hW : (st.map fun v => v.category).sum ≤ 8) (hR : d' + 1 ≤ R.frames ∧ 64 * d' + 64 ≤ R.locals) (hcs : cells ≤ R.cells ∧ slots ≤ R.slots) (hd : decode cc pc = .ok (.invokevirtual idx, 3))
    (kk : Rn G own cc nL ret nm R Z cells slots (pc + 3) lv (rv.toList ++ st) μ1) : Rn G own cc nL ret nm R Z cells slots pc lv stk μ :=
  fun p l e s m args below meth c H locs ls C hS hL hl => by
    subst hst
    obtain ⟨i, hi, hb⟩ := hs
    obtain ⟨hc1, hc2, hc3, hc4⟩ := hc
    obtain ⟨⟨hE, -⟩, -⟩ := hS.2.2.2.2.2.2
    obtain ⟨⟨cell, q1, q2, q3, -⟩, -⟩ := hE i hi
    have hb' : G.2 i = b := by rw [← hS.2.2.2.2.2.1]; exact hb
    rw [hb'] at q1
    have hts := C.2.2.2.2.2.2.1
    have hp : PreV s H y.cls b (va_Pc (.ref b :: As) (fun U => Sim G U μ U.heap ∧ Ex G U)) As := ⟨blind_of _, ⟨cell, q1, q2, by rw [hy]; exact q3⟩, fun U hU hW => ⟨rfl, by rw [hU]; exact hS.moved hW.alike, C.2.2.2.2.2.2.2.2.warm hW⟩⟩
    have hRm : (rmd d' 0 0).frames + 1 ≤ R.frames ∧ 8 + (nL' + 11) + (rmd d' 0 0).locals ≤ R.locals := ⟨hR.1, by show 8 + (nL' + 11) + 64 * d' ≤ _; omega⟩
    have hfix : CallFix p m c cc nL s args lw_ok own := ⟨C.1, C.2.1, C.2.2.1, C.2.2.2.2.2.1, hts⟩
    rcases hlk with hlk | ⟨host, hlk⟩
    · exact of_run (va_runV (rest := st) hfix (hM l) ⟨callB_of n hts (ck_good hc1) rfl rfl rfl (hts _ hc2) (hts _ hlk) hc3 hRm, hts _ hin, hts _ hse⟩ hp rfl hn hl.1 rfl (lv_room hW) hd hcs) C hL hl (fun v μ' h => by obtain ⟨rfl, rfl⟩ := h; exact kk)
    · exact of_run (va_runVN (rest := st) hfix (hM l) ⟨va_cnB n hts (ck_good hc1) rfl rfl rfl (C.2.2.2.2.2.2.2.2.2.1 _ hlk) (hts _ hc2) hc3 hRm, hts _ hin, hts _ hse⟩ hp rfl hn hl.1 rfl (lv_room hW) hd hcs) C hL hl (fun v μ' h => by obtain ⟨rfl, rfl⟩ := h; exact kk)
theorem r_mmax {idx : Nat} {st : List Value} {x y : Int32} (h1 : Cond.methodLink own idx Lib.Math.max.name ∈ lw_ok) (h2 : Cond.static Lib.Math.max.name ∈ lw_ok) (h3 : Cond.initialized "java/lang/Math" ∈ lw_ok) (h4 : Cond.code Lib.Math.max.name Lib.Math.max.code 2 (some .int) ∈ lw_ok) (hW : (st.map fun v => v.category).sum ≤ 8) (hR : 1 ≤ R.frames ∧ 64 ≤ R.locals) (hcs : cells ≤ R.cells ∧ slots ≤ R.slots) (hd : decode cc pc = .ok (.invokestatic idx, 3))
    (kk : Rn G own cc nL ret nm R Z cells slots (pc + 3) lv (.int (if x < y then y else x) :: st) μ) : Rn G own cc nL ret nm R Z cells slots pc lv (.int y :: .int x :: st) μ :=
  fun p l e s m args below meth c H locs ls C hS hL hl =>
    va_mmax C.1 C.2.1 (C.2.2.1.trans hl.1.symm) C.2.2.2.2.2.1 (C.2.2.2.2.2.2.1 _ h1) (C.2.2.2.2.2.2.1 _ h2) (C.2.2.2.2.2.2.1 _ h3) (C.2.2.2.2.2.2.1 _ h4) hR.1 (by omega) hcs.1 hcs.2 hd (kk p l e s m args below meth c H locs ls C hS hL hl)
theorem r_mmin {idx : Nat} {st : List Value} {x y : Int32} (h1 : Cond.methodLink own idx Lib.Math.min.name ∈ lw_ok) (h2 : Cond.static Lib.Math.min.name ∈ lw_ok) (h3 : Cond.initialized "java/lang/Math" ∈ lw_ok) (h4 : Cond.code Lib.Math.min.name Lib.Math.min.code 2 (some .int) ∈ lw_ok) (hW : (st.map fun v => v.category).sum ≤ 8) (hR : 1 ≤ R.frames ∧ 64 ≤ R.locals) (hcs : cells ≤ R.cells ∧ slots ≤ R.slots) (hd : decode cc pc = .ok (.invokestatic idx, 3))
    (kk : Rn G own cc nL ret nm R Z cells slots (pc + 3) lv (.int (if y < x then y else x) :: st) μ) : Rn G own cc nL ret nm R Z cells slots pc lv (.int y :: .int x :: st) μ :=
  fun p l e s m args below meth c H locs ls C hS hL hl =>
    va_mmin C.1 C.2.1 (C.2.2.1.trans hl.1.symm) C.2.2.2.2.2.1 (C.2.2.2.2.2.2.1 _ h1) (C.2.2.2.2.2.2.1 _ h2) (C.2.2.2.2.2.2.1 _ h3) (C.2.2.2.2.2.2.1 _ h4) hR.1 (by omega) hcs.1 hcs.2 hd (kk p l e s m args below meth c H locs ls C hS hL hl)
theorem r_i2c {st : List Value} {x : Int32} (hd : decode cc pc = .ok (.i2c, 1)) (k : Rn G own cc nL ret nm R Z cells slots (pc + 1) lv (.int (x.toUInt32 % 65536).toInt32 :: st) μ) : Rn G own cc nL ret nm R Z cells slots pc lv (.int x :: st) μ :=
  fun p l e s m args below meth c H locs ls C hS hL hl => lv_i2c C.1 C.2.1 hd rfl (k p l e s m args below meth c H locs ls C hS hL hl)
theorem r_getsV {idx : Nat} {st : List Value} {Cn n d : String} {v : Value} (hlk : Cond.fieldLink own idx Cn n d ∈ lw_ok) (hZ : ∀ (s : State) (H : Heap), Sim G s μ H → va_Z Cn n d v (fun q => G.1 ≤ q) s H) (hd : decode cc pc = .ok (.getstatic idx, 3)) (k : Rn G own cc nL ret nm R Z cells slots (pc + 3) lv (v :: st) μ) : Rn G own cc nL ret nm R Z cells slots pc lv st μ :=
  fun p l e s m args below meth c H locs ls C hS hL hl => by
    obtain ⟨cf, kf, fi, f, a, cell, h1, h2, h3, h4, h5, h6, h7, h8⟩ := hZ s H hS
    exact W.gets C.1 C.2.1 C.2.2.2.2.2.1 (C.2.2.2.2.2.2.1 _ hlk) h1 h2 h3 h4 h5 (fun e => by rw [e] at h6; cases h6) h7 rfl hd (k p l e s m args below meth c H locs ls C hS hL hl)
theorem r_getsQ {idx : Nat} {st : List Value} {Cn n d : String} (hlk : Cond.fieldLink own idx Cn n d ∈ lw_ok) (hZ : ∀ (s : State) (H : Heap), Sim G s μ H → va_Zq Cn n d (fun q => G.1 ≤ q) s H) (hd : decode cc pc = .ok (.getstatic idx, 3)) (k : ∀ q : Option Nat, Rn G own cc nL ret nm R Z cells slots (pc + 3) lv (va_rf q :: st) μ) : Rn G own cc nL ret nm R Z cells slots pc lv st μ :=
  fun p l e s m args below meth c H locs ls C hS hL hl => by
    rcases hZ s H hS with h | ⟨t, h⟩
    · obtain ⟨cf, kf, fi, f, a, cell, h1, h2, h3, h4, h5, h6, h7, h8⟩ := h
      exact W.gets C.1 C.2.1 C.2.2.2.2.2.1 (C.2.2.2.2.2.2.1 _ hlk) h1 h2 h3 h4 h5 (fun e => by rw [e] at h6; cases h6) h7 rfl hd (k none p l e s m args below meth c H locs ls C hS hL hl)
    · obtain ⟨cf, kf, fi, f, a, cell, h1, h2, h3, h4, h5, h6, h7, h8⟩ := h
      exact W.gets C.1 C.2.1 C.2.2.2.2.2.1 (C.2.2.2.2.2.2.1 _ hlk) h1 h2 h3 h4 h5 (fun e => by rw [e] at h6; cases h6) h7 rfl hd (k (some t) p l e s m args below meth c H locs ls C hS hL hl)
theorem r_strF {idx i : Nat} {st : List Value} {n d : String} {v : Value} (hlk : Cond.fieldLink own idx "java/lang/String" n d ∈ lw_ok) (hZ : ∀ (s : State) (H : Heap), Sim G s μ H → va_OF "java/lang/String" n d v (mm_S μ i) (fun q => G.1 ≤ q) s H) (hd : decode cc pc = .ok (.getfield idx, 3)) (k : Rn G own cc nL ret nm R Z cells slots (pc + 3) lv (v :: st) μ) : Rn G own cc nL ret nm R Z cells slots pc lv (.ref (mm_S μ i) :: st) μ :=
  fun p l e s m args below meth c H locs ls C hS hL hl => by
    obtain ⟨cf, kk, fi, f, cell, h1, h2, h3, h4, h5, h6⟩ := hZ s H hS
    exact W.getf C.1 C.2.1 C.2.2.2.2.2.1 (C.2.2.2.2.2.2.1 _ hlk) h1 h2 h3 h4 (v := v) h5 rfl rfl hd (k p l e s m args below meth c H locs ls C hS hL hl)
theorem r_strL {i : Nat} {st : List Value} (hi : i < 14) (hd : decode cc pc = .ok (.arraylength, 1)) (k : Rn G own cc nL ret nm R Z cells slots (pc + 1) lv (.int (nI (s_ln.getD i 0)) :: st) μ) : Rn G own cc nL ret nm R Z cells slots pc lv (.ref (mm_S μ (14 + i)) :: st) μ :=
  fun p l e s m args below meth c H locs ls C hS hL hl => by
    obtain ⟨-, -, -, cell, h1, h2, h3, h4, h5, h6, h7⟩ := hS.2.2.2.2.2.2.1.1 i hi
    have hb : mm_S μ = G.2 := hS.2.2.2.2.2.1
    rw [hb]
    exact W.alen C.1 C.2.1 h1 h2 h5 rfl rfl hd (k p l e s m args below meth c H locs ls C hS hL hl)
theorem r_strB {i : Nat} {j : Int32} {st : List Value} (hi : i < 14) (hj : 0 ≤ j.toInt ∧ j.toInt < s_ln.getD i 0) (hd : decode cc pc = .ok (.baload, 1)) (k : Rn G own cc nL ret nm R Z cells slots (pc + 1) lv (.int ((s_by.getD i []).getD j.toNatClampNeg 0) :: st) μ) : Rn G own cc nL ret nm R Z cells slots pc lv (.int j :: .ref (mm_S μ (14 + i)) :: st) μ :=
  fun p l e s m args below meth c H locs ls C hS hL hl => by
    obtain ⟨-, -, -, cell, h1, h2, h3, h4, h5, h6, h7⟩ := hS.2.2.2.2.2.2.1.1 i hi
    have hb : mm_S μ = G.2 := hS.2.2.2.2.2.1
    rw [hb]
    refine W.bald C.1 C.2.1 h1 h2 h3 ?_ (h6 _ (ix_lt hj)) rfl rfl hd (k p l e s m args below meth c H locs ls C hS hL hl)
    intro h
    rcases h with h | h
    · exact ix_in hj (Or.inl h)
    · have := ix_lt hj
      omega
theorem r_nreturn {x : Int32} {ty : FieldType} {Q : Option Value → Mm → Prop} (hr : ret = some ty) (hz : narrow ty (.int x) = .int x) (hq : Q (some (.int x)) μ) (hd : decode cc pc = .ok (.ireturn, 1)) : Rn G own cc nL ret nm R (Zm G cells slots Q) cells slots pc lv [.int x] μ :=
  fun p l e s m args below meth c H locs ls C hS hL hl => W.zret C.1 C.2.1 (C.2.2.2.1.trans hr) hz (fun t ht hW => ⟨_, μ, rfl, by rw [ht]; exact hS.moved hW.alike, hq⟩) hL hd (hlocks := C.2.2.2.2.1)
end RS
theorem ck_J0_coder_7d493 : Ck yJ0_coder_7d493 cJ0_coder_7d493 1 (some .byte) 0 := ⟨ok_in (tb_3 154 (by decide +kernel)) rfl, ok_in (tb_1 16 (by decide +kernel)) rfl, ⟨by decide, by decide, by decide +kernel⟩, by decide⟩
theorem in_J0_coder_7d493 : Cond.instanceMethod yJ0_coder_7d493 ∈ lw_ok := ok_in (tb_3 152 (by decide +kernel)) rfl
theorem se_J0_coder_7d493 : Cond.selects (yJ0_coder_7d493).cls yJ0_coder_7d493 yJ0_coder_7d493 ∈ lw_ok := ok_in (tb_3 153 (by decide +kernel)) rfl
theorem ck_J0_isLatin1_aae02 : Ck yJ0_isLatin1_aae02 cJ0_isLatin1_aae02 1 (some .boolean) 0 := ⟨ok_in (tb_3 164 (by decide +kernel)) rfl, ok_in (tb_1 16 (by decide +kernel)) rfl, ⟨by decide, by decide, by decide +kernel⟩, by decide⟩
theorem in_J0_isLatin1_aae02 : Cond.instanceMethod yJ0_isLatin1_aae02 ∈ lw_ok := ok_in (tb_3 162 (by decide +kernel)) rfl
theorem se_J0_isLatin1_aae02 : Cond.selects (yJ0_isLatin1_aae02).cls yJ0_isLatin1_aae02 yJ0_isLatin1_aae02 ∈ lw_ok := ok_in (tb_3 163 (by decide +kernel)) rfl
theorem ck_J1_charAt_3b067 : Ck yJ1_charAt_3b067 cJ1_charAt_3b067 2 (some .char) 2 := ⟨ok_in (tb_3 167 (by decide +kernel)) rfl, ok_in (tb_1 17 (by decide +kernel)) rfl, ⟨by decide, by decide, by decide +kernel⟩, by decide⟩
theorem st_J1_charAt_3b067 : Cond.static yJ1_charAt_3b067 ∈ lw_ok := ok_in (tb_3 166 (by decide +kernel)) rfl
theorem ck_J0_checkIndex_df160 : Ck yJ0_checkIndex_df160 cJ0_checkIndex_df160 2 none 2 := ⟨ok_in (tb_3 170 (by decide +kernel)) rfl, ok_in (tb_1 16 (by decide +kernel)) rfl, ⟨by decide, by decide, by decide +kernel⟩, by decide⟩
theorem st_J0_checkIndex_df160 : Cond.static yJ0_checkIndex_df160 ∈ lw_ok := ok_in (tb_3 169 (by decide +kernel)) rfl
theorem ck_J3_checkIndex_8e157 : Ck yJ3_checkIndex_8e157 cJ3_checkIndex_8e157 3 (some .int) 3 := ⟨ok_in (tb_3 175 (by decide +kernel)) rfl, ok_in (tb_1 18 (by decide +kernel)) rfl, ⟨by decide, by decide, by decide +kernel⟩, by decide⟩
theorem st_J3_checkIndex_8e157 : Cond.static yJ3_checkIndex_8e157 ∈ lw_ok := ok_in (tb_3 174 (by decide +kernel)) rfl
theorem lk_J0_335 : Lk RJ0 335 yJ0_coder_7d493 := Or.inl (ok_in (tb_3 151 (by decide +kernel)) rfl)
theorem lk_J0_492 : Lk RJ0 492 yJ0_isLatin1_aae02 := Or.inl (ok_in (tb_3 161 (by decide +kernel)) rfl)
theorem lk_J0_495 : Lk RJ0 495 yJ1_charAt_3b067 := Or.inl (ok_in (tb_3 165 (by decide +kernel)) rfl)
theorem lk_J1_9 : Lk RJ1 9 yJ0_checkIndex_df160 := Or.inl (ok_in (tb_3 168 (by decide +kernel)) rfl)
theorem lk_J0_1059 : Lk RJ0 1059 yJ3_checkIndex_8e157 := Or.inl (ok_in (tb_3 173 (by decide +kernel)) rfl)
theorem fs_38 : Cond.fieldLink RJ0 38 "java/lang/String" "COMPACT_STRINGS" "Z" ∈ lw_ok := ok_in (tb_3 155 (by decide +kernel)) rfl
theorem fs_9 : Cond.fieldLink RJ0 9 "java/lang/String" "value" "[B" ∈ lw_ok := ok_in (tb_8 202 (by decide +kernel)) rfl
theorem fs_15 : Cond.fieldLink RJ0 15 "java/lang/String" "coder" "B" ∈ lw_ok := ok_in (tb_8 203 (by decide +kernel)) rfl
theorem fs_1053 : Cond.fieldLink RJ0 1053 "jdk/internal/util/Preconditions" "SIOOBE_FORMATTER" "Ljava/util/function/BiFunction;" ∈ lw_ok := ok_in (tb_3 171 (by decide +kernel)) rfl
theorem dJ0_length_8abf5_0 : decode cJ0_length_8abf5 0 = .ok (.aload_n 0, 1) := by decide +kernel
theorem dJ0_length_8abf5_1 : decode cJ0_length_8abf5 1 = .ok (.getfield 9, 3) := by decide +kernel
theorem dJ0_length_8abf5_4 : decode cJ0_length_8abf5 4 = .ok (.arraylength, 1) := by decide +kernel
theorem dJ0_length_8abf5_5 : decode cJ0_length_8abf5 5 = .ok (.aload_n 0, 1) := by decide +kernel
theorem dJ0_length_8abf5_6 : decode cJ0_length_8abf5 6 = .ok (.invokevirtual 335, 3) := by decide +kernel
theorem dJ0_length_8abf5_9 : decode cJ0_length_8abf5 9 = .ok (.ishr, 1) := by decide +kernel
theorem dJ0_length_8abf5_10 : decode cJ0_length_8abf5 10 = .ok (.ireturn, 1) := by decide +kernel
theorem dJ0_coder_7d493_0 : decode cJ0_coder_7d493 0 = .ok (.getstatic 38, 3) := by decide +kernel
theorem dJ0_coder_7d493_3 : decode cJ0_coder_7d493 3 = .ok (.ifCond .eq 10, 3) := by decide +kernel
theorem dJ0_coder_7d493_6 : decode cJ0_coder_7d493 6 = .ok (.aload_n 0, 1) := by decide +kernel
theorem dJ0_coder_7d493_7 : decode cJ0_coder_7d493 7 = .ok (.getfield 15, 3) := by decide +kernel
theorem dJ0_coder_7d493_10 : decode cJ0_coder_7d493 10 = .ok (.goto 4, 3) := by decide +kernel
theorem dJ0_coder_7d493_13 : decode cJ0_coder_7d493 13 = .ok (.iconst 1, 1) := by decide +kernel
theorem dJ0_coder_7d493_14 : decode cJ0_coder_7d493 14 = .ok (.ireturn, 1) := by decide +kernel
theorem dJ0_charAt_5068e_0 : decode cJ0_charAt_5068e 0 = .ok (.aload_n 0, 1) := by decide +kernel
theorem dJ0_charAt_5068e_1 : decode cJ0_charAt_5068e 1 = .ok (.invokevirtual 492, 3) := by decide +kernel
theorem dJ0_charAt_5068e_4 : decode cJ0_charAt_5068e 4 = .ok (.ifCond .eq 12, 3) := by decide +kernel
theorem dJ0_charAt_5068e_7 : decode cJ0_charAt_5068e 7 = .ok (.aload_n 0, 1) := by decide +kernel
theorem dJ0_charAt_5068e_8 : decode cJ0_charAt_5068e 8 = .ok (.getfield 9, 3) := by decide +kernel
theorem dJ0_charAt_5068e_11 : decode cJ0_charAt_5068e 11 = .ok (.iload_n 1, 1) := by decide +kernel
theorem dJ0_charAt_5068e_12 : decode cJ0_charAt_5068e 12 = .ok (.invokestatic 495, 3) := by decide +kernel
theorem dJ0_charAt_5068e_15 : decode cJ0_charAt_5068e 15 = .ok (.ireturn, 1) := by decide +kernel
theorem dJ0_charAt_5068e_16 : decode cJ0_charAt_5068e 16 = .ok (.aload_n 0, 1) := by decide +kernel
theorem dJ0_charAt_5068e_17 : decode cJ0_charAt_5068e 17 = .ok (.getfield 9, 3) := by decide +kernel
theorem dJ0_charAt_5068e_20 : decode cJ0_charAt_5068e 20 = .ok (.iload_n 1, 1) := by decide +kernel
theorem dJ0_charAt_5068e_21 : decode cJ0_charAt_5068e 21 = .ok (.invokestatic 498, 3) := by decide +kernel
theorem dJ0_charAt_5068e_24 : decode cJ0_charAt_5068e 24 = .ok (.ireturn, 1) := by decide +kernel
theorem dJ0_isLatin1_aae02_0 : decode cJ0_isLatin1_aae02 0 = .ok (.getstatic 38, 3) := by decide +kernel
theorem dJ0_isLatin1_aae02_3 : decode cJ0_isLatin1_aae02 3 = .ok (.ifCond .eq 14, 3) := by decide +kernel
theorem dJ0_isLatin1_aae02_6 : decode cJ0_isLatin1_aae02 6 = .ok (.aload_n 0, 1) := by decide +kernel
theorem dJ0_isLatin1_aae02_7 : decode cJ0_isLatin1_aae02 7 = .ok (.getfield 15, 3) := by decide +kernel
theorem dJ0_isLatin1_aae02_10 : decode cJ0_isLatin1_aae02 10 = .ok (.ifCond .ne 7, 3) := by decide +kernel
theorem dJ0_isLatin1_aae02_13 : decode cJ0_isLatin1_aae02 13 = .ok (.iconst 1, 1) := by decide +kernel
theorem dJ0_isLatin1_aae02_14 : decode cJ0_isLatin1_aae02 14 = .ok (.goto 4, 3) := by decide +kernel
theorem dJ0_isLatin1_aae02_17 : decode cJ0_isLatin1_aae02 17 = .ok (.iconst 0, 1) := by decide +kernel
theorem dJ0_isLatin1_aae02_18 : decode cJ0_isLatin1_aae02 18 = .ok (.ireturn, 1) := by decide +kernel
theorem dJ1_charAt_3b067_0 : decode cJ1_charAt_3b067 0 = .ok (.iload_n 1, 1) := by decide +kernel
theorem dJ1_charAt_3b067_1 : decode cJ1_charAt_3b067 1 = .ok (.aload_n 0, 1) := by decide +kernel
theorem dJ1_charAt_3b067_2 : decode cJ1_charAt_3b067 2 = .ok (.arraylength, 1) := by decide +kernel
theorem dJ1_charAt_3b067_3 : decode cJ1_charAt_3b067 3 = .ok (.invokestatic 9, 3) := by decide +kernel
theorem dJ1_charAt_3b067_6 : decode cJ1_charAt_3b067 6 = .ok (.aload_n 0, 1) := by decide +kernel
theorem dJ1_charAt_3b067_7 : decode cJ1_charAt_3b067 7 = .ok (.iload_n 1, 1) := by decide +kernel
theorem dJ1_charAt_3b067_8 : decode cJ1_charAt_3b067 8 = .ok (.baload, 1) := by decide +kernel
theorem dJ1_charAt_3b067_9 : decode cJ1_charAt_3b067 9 = .ok (.sipush 255, 3) := by decide +kernel
theorem dJ1_charAt_3b067_12 : decode cJ1_charAt_3b067 12 = .ok (.iand, 1) := by decide +kernel
theorem dJ1_charAt_3b067_13 : decode cJ1_charAt_3b067 13 = .ok (.i2c, 1) := by decide +kernel
theorem dJ1_charAt_3b067_14 : decode cJ1_charAt_3b067 14 = .ok (.ireturn, 1) := by decide +kernel
theorem dJ0_checkIndex_df160_0 : decode cJ0_checkIndex_df160 0 = .ok (.iload_n 0, 1) := by decide +kernel
theorem dJ0_checkIndex_df160_1 : decode cJ0_checkIndex_df160 1 = .ok (.iload_n 1, 1) := by decide +kernel
theorem dJ0_checkIndex_df160_2 : decode cJ0_checkIndex_df160 2 = .ok (.getstatic 1053, 3) := by decide +kernel
theorem dJ0_checkIndex_df160_5 : decode cJ0_checkIndex_df160 5 = .ok (.invokestatic 1059, 3) := by decide +kernel
theorem dJ0_checkIndex_df160_8 : decode cJ0_checkIndex_df160 8 = .ok (.pop, 1) := by decide +kernel
theorem dJ0_checkIndex_df160_9 : decode cJ0_checkIndex_df160 9 = .ok (.return_, 1) := by decide +kernel
theorem dJ3_checkIndex_8e157_0 : decode cJ3_checkIndex_8e157 0 = .ok (.iload_n 0, 1) := by decide +kernel
theorem dJ3_checkIndex_8e157_1 : decode cJ3_checkIndex_8e157 1 = .ok (.ifCond .lt 8, 3) := by decide +kernel
theorem dJ3_checkIndex_8e157_4 : decode cJ3_checkIndex_8e157 4 = .ok (.iload_n 0, 1) := by decide +kernel
theorem dJ3_checkIndex_8e157_5 : decode cJ3_checkIndex_8e157 5 = .ok (.iload_n 1, 1) := by decide +kernel
theorem dJ3_checkIndex_8e157_6 : decode cJ3_checkIndex_8e157 6 = .ok (.if_icmp .lt 10, 3) := by decide +kernel
theorem dJ3_checkIndex_8e157_9 : decode cJ3_checkIndex_8e157 9 = .ok (.aload_n 2, 1) := by decide +kernel
theorem dJ3_checkIndex_8e157_10 : decode cJ3_checkIndex_8e157 10 = .ok (.iload_n 0, 1) := by decide +kernel
theorem dJ3_checkIndex_8e157_11 : decode cJ3_checkIndex_8e157 11 = .ok (.iload_n 1, 1) := by decide +kernel
theorem dJ3_checkIndex_8e157_12 : decode cJ3_checkIndex_8e157 12 = .ok (.invokestatic 95, 3) := by decide +kernel
theorem dJ3_checkIndex_8e157_15 : decode cJ3_checkIndex_8e157 15 = .ok (.athrow, 1) := by decide +kernel
theorem dJ3_checkIndex_8e157_16 : decode cJ3_checkIndex_8e157 16 = .ok (.iload_n 0, 1) := by decide +kernel
theorem dJ3_checkIndex_8e157_17 : decode cJ3_checkIndex_8e157 17 = .ok (.ireturn, 1) := by decide +kernel
set_option maxRecDepth 100000 in
theorem m_coder {G : Gv} (i : Nat) (hi : i < 14) (μ : Mm) : Mt G yJ0_coder_7d493 cJ0_coder_7d493 1 (some .byte) 0 0 0 [.ref (mm_S μ i)] μ (fun v μ' => v = some (.int 0) ∧ μ' = μ) := by
  refine Mt.of (by decide) (Nat.le_of_ble_eq_true rfl) ?_
  show Rn G RJ0 cJ0_coder_7d493 1 (some .byte) "coder" (rmd 0 0 0) (Zm G 0 0 (fun v μ' => v = some (.int 0) ∧ μ' = μ)) 0 0 0 [(0, .ref (mm_S μ i))] [] μ
  refine r_getsV fs_38 (fun s H hS => hS.2.2.2.2.2.2.2.1) dJ0_coder_7d493_0 ?_
  refine r_if_eq 13 dJ0_coder_7d493_3 (by decide) (fun c => absurd c (by decide)) (fun c => ?_)
  refine r_aload_n dJ0_coder_7d493_6 0 rfl ?_
  refine r_strF (v := .int 0) fs_15 (fun s H hS => by have := (hS.2.2.2.2.2.2.1.1 i hi).2.1; rw [← hS.2.2.2.2.2.1] at this; exact this) dJ0_coder_7d493_7 ?_
  refine r_goto 14 dJ0_coder_7d493_10 (by decide) ?_
  exact r_nreturn rfl (by decide) ⟨rfl, rfl⟩ dJ0_coder_7d493_14
set_option maxRecDepth 100000 in
theorem m_isLatin1 {G : Gv} (i : Nat) (hi : i < 14) (μ : Mm) : Mt G yJ0_isLatin1_aae02 cJ0_isLatin1_aae02 1 (some .boolean) 0 0 0 [.ref (mm_S μ i)] μ (fun v μ' => v = some (.int 1) ∧ μ' = μ) := by
  refine Mt.of (by decide) (Nat.le_of_ble_eq_true rfl) ?_
  show Rn G RJ0 cJ0_isLatin1_aae02 1 (some .boolean) "isLatin1" (rmd 0 0 0) (Zm G 0 0 (fun v μ' => v = some (.int 1) ∧ μ' = μ)) 0 0 0 [(0, .ref (mm_S μ i))] [] μ
  refine r_getsV fs_38 (fun s H hS => hS.2.2.2.2.2.2.2.1) dJ0_isLatin1_aae02_0 ?_
  refine r_if_eq 17 dJ0_isLatin1_aae02_3 (by decide) (fun c => absurd c (by decide)) (fun c => ?_)
  refine r_aload_n dJ0_isLatin1_aae02_6 0 rfl ?_
  refine r_strF (v := .int 0) fs_15 (fun s H hS => by have := (hS.2.2.2.2.2.2.1.1 i hi).2.1; rw [← hS.2.2.2.2.2.1] at this; exact this) dJ0_isLatin1_aae02_7 ?_
  refine r_if_ne 17 dJ0_isLatin1_aae02_10 (by decide) (fun c => absurd rfl c) (fun c => ?_)
  refine r_iconst (v := 1) dJ0_isLatin1_aae02_13 (by decide) ?_
  refine r_goto 18 dJ0_isLatin1_aae02_14 (by decide) ?_
  exact r_zreturn rfl (by decide) ⟨rfl, rfl⟩ dJ0_isLatin1_aae02_18
theorem s_neg {x y : Int32} (h : x.toInt < y.toInt) : x < y := Int32.lt_iff_toInt_lt.mpr h
set_option maxRecDepth 100000 in
theorem m_preIndex {G : Gv} (i n : Int32) (q : Option Nat) (μ : Mm) (h0 : 0 ≤ i.toInt) (h1 : i < n) : Mt G yJ3_checkIndex_8e157 cJ3_checkIndex_8e157 3 (some .int) 0 0 0 [.int i, .int n, va_rf q] μ (fun v μ' => v = some (.int i) ∧ μ' = μ) := by
  refine Mt.of (by decide) (by cases q <;> exact Nat.le_of_ble_eq_true rfl) ?_
  have hn : ¬ i < 0 := fun h => by
    have := Int32.lt_iff_toInt_lt.mp h
    have h9 : (0 : Int32).toInt = 0 := by decide
    omega
  have e : lv_args 0 [.int i, .int n, va_rf q] = [(0, .int i), (1, .int n), (2, va_rf q)] := by cases q <;> rfl
  rw [e]
  show Rn G RJ3 cJ3_checkIndex_8e157 3 (some .int) "checkIndex" (rmd 0 0 0) (Zm G 0 0 (fun v μ' => v = some (.int i) ∧ μ' = μ)) 0 0 0 [(0, .int i), (1, .int n), (2, va_rf q)] [] μ
  refine r_iload_n dJ3_checkIndex_8e157_0 0 rfl ?_
  refine r_if_lt 9 dJ3_checkIndex_8e157_1 (by decide) (fun c => absurd c hn) (fun c => ?_)
  refine r_iload_n dJ3_checkIndex_8e157_4 0 rfl ?_
  refine r_iload_n dJ3_checkIndex_8e157_5 1 rfl ?_
  refine r_icmp_lt 16 dJ3_checkIndex_8e157_6 (by decide) (fun c => ?_) (fun c => absurd h1 c)
  refine r_iload_n dJ3_checkIndex_8e157_16 0 rfl ?_
  exact r_ireturn rfl ⟨rfl, rfl⟩ dJ3_checkIndex_8e157_17
set_option maxRecDepth 100000 in
theorem m_strIndex {G : Gv} (i n : Int32) (μ : Mm) (h0 : 0 ≤ i.toInt) (h1 : i < n) : Mt G yJ0_checkIndex_df160 cJ0_checkIndex_df160 2 none 1 0 0 [.int i, .int n] μ (fun v μ' => v = none ∧ μ' = μ) := by
  refine Mt.of (by decide) (Nat.le_of_ble_eq_true rfl) ?_
  show Rn G RJ0 cJ0_checkIndex_df160 2 none "checkIndex" (rmd 1 0 0) (Zm G 0 0 (fun v μ' => v = none ∧ μ' = μ)) 0 0 0 [(0, .int i), (1, .int n)] [] μ
  refine r_iload_n dJ0_checkIndex_df160_0 0 rfl ?_
  refine r_iload_n dJ0_checkIndex_df160_1 1 rfl ?_
  refine r_getsQ fs_1053 (fun s H hS => hS.2.2.2.2.2.2.2.2) dJ0_checkIndex_df160_2 (fun q => ?_)
  refine r_cS [.int i, .int n, va_rf q] [] (m_preIndex i n q μ h0 h1) ck_J3_checkIndex_8e157 lk_J0_1059 st_J3_checkIndex_8e157 rfl rfl (Nat.le_of_ble_eq_true rfl) ⟨by decide, by decide⟩ ⟨Nat.zero_le _, Nat.zero_le _⟩ dJ0_checkIndex_df160_5 ?_
  refine r_pop dJ0_checkIndex_df160_8 rfl ?_
  exact r_vreturn rfl ⟨rfl, rfl⟩ dJ0_checkIndex_df160_9
theorem s_char : ∀ i, i < 14 → ∀ j, j < s_ln.getD i 0 → let x := (s_by.getD i []).getD j 0; ((x &&& 255).toUInt32 % 65536).toInt32 = x ∧ narrow .char (.int x) = .int x := by decide +kernel
theorem s_lnb : ∀ i, i < 14 → s_ln.getD i 0 < 2 ^ 31 := by decide +kernel
set_option maxRecDepth 100000 in
theorem m_latAt {G : Gv} (i : Nat) (hi : i < 14) (j : Int32) (μ : Mm) (hj : 0 ≤ j.toInt ∧ j.toInt < s_ln.getD i 0) : Mt G yJ1_charAt_3b067 cJ1_charAt_3b067 2 (some .char) 2 0 0 [.ref (mm_S μ (14 + i)), .int j] μ (fun v μ' => v = some (.int ((s_by.getD i []).getD j.toNatClampNeg 0)) ∧ μ' = μ) := by
  refine Mt.of (by decide) (Nat.le_of_ble_eq_true rfl) ?_
  show Rn G RJ1 cJ1_charAt_3b067 2 (some .char) "charAt" (rmd 2 0 0) (Zm G 0 0 (fun v μ' => v = some (.int ((s_by.getD i []).getD j.toNatClampNeg 0)) ∧ μ' = μ)) 0 0 0 [(0, .ref (mm_S μ (14 + i))), (1, .int j)] [] μ
  have hlt : j < nI (s_ln.getD i 0) := s_neg (by rw [nI_toInt (s_lnb i hi)]; exact hj.2)
  obtain ⟨c1, c2⟩ := s_char i hi j.toNatClampNeg (ix_lt hj)
  refine r_iload_n dJ1_charAt_3b067_0 1 rfl ?_
  refine r_aload_n dJ1_charAt_3b067_1 0 rfl ?_
  refine r_strL hi dJ1_charAt_3b067_2 ?_
  refine r_cS [.int j, .int (nI (s_ln.getD i 0))] [] (m_strIndex j (nI (s_ln.getD i 0)) μ hj.1 hlt) ck_J0_checkIndex_df160 lk_J1_9 st_J0_checkIndex_df160 rfl rfl (Nat.le_of_ble_eq_true rfl) ⟨by decide, by decide⟩ ⟨Nat.zero_le _, Nat.zero_le _⟩ dJ1_charAt_3b067_3 ?_
  refine r_aload_n dJ1_charAt_3b067_6 0 rfl ?_
  refine r_iload_n dJ1_charAt_3b067_7 1 rfl ?_
  refine r_strB hi hj dJ1_charAt_3b067_8 ?_
  refine r_sipush (v := 255) dJ1_charAt_3b067_9 (by decide) ?_
  refine r_iand dJ1_charAt_3b067_12 ?_
  refine r_i2c dJ1_charAt_3b067_13 ?_
  refine r_topi c1 ?_
  exact r_nreturn rfl c2 ⟨rfl, rfl⟩ dJ1_charAt_3b067_14
set_option maxRecDepth 100000 in
theorem m_sx_len {G : Gv} (a0 : Nat) (μ : Mm) {r : Int32} (hx : sx_len a0 μ = some r) : Mt G yJ0_length_8abf5 cJ0_length_8abf5 1 (some .int) 3 0 0 [.ref a0] μ (fun v μ' => v = some (.int r) ∧ μ' = μ) := by
  refine Mt.of (by decide) (Nat.le_of_ble_eq_true rfl) ?_
  unfold sx_len at hx
  cases hq : sx_ix a0 μ with
  | none => rw [hq] at hx; cases hx
  | some i =>
    rw [hq] at hx
    obtain ⟨hi, ha⟩ := sx_ix_s hq
    cases hx
    subst ha
    show Rn G RJ0 cJ0_length_8abf5 1 (some .int) "length" (rmd 3 0 0) (Zm G 0 0 (fun v μ' => v = some (.int (nI (s_ln.getD i 0))) ∧ μ' = μ)) 0 0 0 [(0, .ref (mm_S μ i))] [] μ
    refine r_aload_n dJ0_length_8abf5_0 0 rfl ?_
    refine r_strF (v := .ref (mm_S μ (14 + i))) fs_9 (fun s H hS => by have := (hS.2.2.2.2.2.2.1.1 i hi).2.2.1; rw [← hS.2.2.2.2.2.1] at this; exact this) dJ0_length_8abf5_1 ?_
    refine r_strL hi dJ0_length_8abf5_4 ?_
    refine r_aload_n dJ0_length_8abf5_5 0 rfl ?_
    refine r_cStr [] [.int (nI (s_ln.getD i 0))] (m_coder i hi μ) ck_J0_coder_7d493 lk_J0_335 in_J0_coder_7d493 se_J0_coder_7d493 ⟨i, hi, rfl⟩ rfl rfl rfl (Nat.le_of_ble_eq_true rfl) ⟨by decide, by decide⟩ ⟨Nat.zero_le _, Nat.zero_le _⟩ dJ0_length_8abf5_6 ?_
    refine r_ishr dJ0_length_8abf5_9 ?_
    have e : ∀ k, k < 14 → nI (s_ln.getD k 0) >>> ((0 : Int32) &&& 31) = nI (s_ln.getD k 0) := by decide +kernel
    refine r_topi (e i hi) ?_
    exact r_ireturn rfl ⟨rfl, rfl⟩ dJ0_length_8abf5_10
set_option maxRecDepth 100000 in
theorem m_sx_at {G : Gv} (a0 : Nat) (l1 : Int32) (μ : Mm) {r : Int32} (hx : sx_at a0 l1 μ = some r) : Mt G yJ0_charAt_5068e cJ0_charAt_5068e 2 (some .char) 3 0 0 [.ref a0, .int l1] μ (fun v μ' => v = some (.int r) ∧ μ' = μ) := by
  refine Mt.of (by decide) (Nat.le_of_ble_eq_true rfl) ?_
  unfold sx_at at hx
  cases hq : sx_ix a0 μ with
  | none => rw [hq] at hx; cases hx
  | some i =>
    rw [hq] at hx
    obtain ⟨hi, ha⟩ := sx_ix_s hq
    have hx : (if 0 ≤ l1.toInt ∧ l1.toInt < s_ln.getD i 0 then some ((s_by.getD i []).getD l1.toNatClampNeg 0) else none) = some r := hx
    have hj := kd_of hx
    rw [if_pos hj] at hx
    cases hx
    subst ha
    show Rn G RJ0 cJ0_charAt_5068e 2 (some .char) "charAt" (rmd 3 0 0) (Zm G 0 0 (fun v μ' => v = some (.int ((s_by.getD i []).getD l1.toNatClampNeg 0)) ∧ μ' = μ)) 0 0 0 [(0, .ref (mm_S μ i)), (1, .int l1)] [] μ
    obtain ⟨c1, c2⟩ := s_char i hi l1.toNatClampNeg (ix_lt hj)
    refine r_aload_n dJ0_charAt_5068e_0 0 rfl ?_
    refine r_cStr [] [] (m_isLatin1 i hi μ) ck_J0_isLatin1_aae02 lk_J0_492 in_J0_isLatin1_aae02 se_J0_isLatin1_aae02 ⟨i, hi, rfl⟩ rfl rfl rfl (Nat.le_of_ble_eq_true rfl) ⟨by decide, by decide⟩ ⟨Nat.zero_le _, Nat.zero_le _⟩ dJ0_charAt_5068e_1 ?_
    refine r_if_eq 16 dJ0_charAt_5068e_4 (by decide) (fun c => absurd c (by decide)) (fun c => ?_)
    refine r_aload_n dJ0_charAt_5068e_7 0 rfl ?_
    refine r_strF (v := .ref (mm_S μ (14 + i))) fs_9 (fun s H hS => by have := (hS.2.2.2.2.2.2.1.1 i hi).2.2.1; rw [← hS.2.2.2.2.2.1] at this; exact this) dJ0_charAt_5068e_8 ?_
    refine r_iload_n dJ0_charAt_5068e_11 1 rfl ?_
    refine r_cS [.ref (mm_S μ (14 + i)), .int l1] [] (m_latAt i hi l1 μ hj) ck_J1_charAt_3b067 lk_J0_495 st_J1_charAt_3b067 rfl rfl (Nat.le_of_ble_eq_true rfl) ⟨by decide, by decide⟩ ⟨Nat.zero_le _, Nat.zero_le _⟩ dJ0_charAt_5068e_12 ?_
    exact r_nreturn rfl c2 ⟨rfl, rfl⟩ dJ0_charAt_5068e_15
