/-! ===== System.arraycopy over int arrays; the string constants, and their methods ===== -/
def ms_A (μ : Mm) (a : Nat) (f : Nat → Int32) : Mm := (u1 μ.1 a f, μ.2)
def cp_I (src : Nat) (sp : Int32) (dst : Nat) (dp n : Int32) (μ : Mm) : Option Mm := if (mm_K μ src).1 = 20 ∧ (mm_K μ dst).1 = 20 ∧ 0 ≤ sp.toInt ∧ 0 ≤ dp.toInt ∧ 0 ≤ n.toInt ∧ sp.toInt + n.toInt ≤ (mm_K μ src).2 ∧ dp.toInt + n.toInt ≤ (mm_K μ dst).2 then some (ms_A μ dst (va_cpy (mm_I μ src) (mm_I μ dst) sp.toNatClampNeg dp.toNatClampNeg n.toNatClampNeg)) else none
theorem r_copyI {G : Gv} {own : String} {cc : ByteArray} {nL : Nat} {ret : Option FieldType} {nm : String} {R : Room} {Z : Zt} {cells slots pc : Nat} {lv : List (Nat × Value)} {μ μ' : Mm} {idx src dst : Nat} {st : List Value} {sp dp n : Int32} (hx : cp_I src sp dst dp n μ = some μ') (h1 : Cond.methodLink own idx arraycopyName ∈ lw_ok) (h2 : Cond.native arraycopyName ∈ lw_ok) (h3 : Cond.static arraycopyName ∈ lw_ok) (h4 : Cond.initialized "java/lang/System" ∈ lw_ok) (hW : (st.map fun v => v.category).sum ≤ 8) (hR : 1 ≤ R.frames ∧ 64 ≤ R.locals) (hd : decode cc pc = .ok (.invokestatic idx, 3))
    (kk : Rn G own cc nL ret nm R Z cells slots (pc + 3) lv st μ') : Rn G own cc nL ret nm R Z cells slots pc lv (.int n :: .int dp :: .ref dst :: .int sp :: .ref src :: st) μ :=
  fun p l e s m args below meth c H locs ls C hS hL hl => by
    unfold cp_I at hx
    split at hx
    · rename_i hg
      cases hx
      obtain ⟨g1, g2, g3, g4, g5, g6, g7⟩ := hg
      obtain ⟨ha0, c0, k1, k2, k3⟩ := hS.2.1 src (by omega) (by omega)
      obtain ⟨ha, c1, k4, k5, k6⟩ := hS.2.1 dst (by omega) (by omega)
      rw [g1] at k1 k2 k3
      rw [g2] at k4 k5 k6
      have hts := C.2.2.2.2.2.2.1
      have ng : ∀ z : Int32, 0 ≤ z.toInt → ¬ z < 0 := fun z hz h => by
        have := Int32.lt_iff_toInt_lt.mp h
        have h0 : (0 : Int32).toInt = 0 := by decide
        omega
      have nn : ∀ z : Int32, 0 ≤ z.toInt → z.toInt = (z.toNatClampNeg : Int) := fun z hz => (Int.toNat_of_nonneg hz).symm
      have e1 := nn sp g3
      have e2 := nn dp g4
      have e3 := nn n g5
      intro T hT X
      obtain ⟨-, q0, hk0, cm0, hkk0⟩ := k1 (mm_K μ src).2 (fun k => fv (aty 20) (mm_I μ src k) (mm_L μ src k) (mm_P μ src k))
      obtain ⟨-, q1, hk1, cm1, hkk1⟩ := k4 (mm_K μ dst).2 (fun k => fv (aty 20) (mm_I μ dst k) (mm_L μ dst k) (mm_P μ dst k))
      obtain ⟨vm', X', step⟩ := X.arraycopy C.1 C.2.2.2.2.2.1 (hts _ h1) (hts _ h2) (hts _ h3) (hts _ h4) (src := src) (dst := dst) (srcPos := sp) (destPos := dp) (n := n) (by rw [hT]; exact k3) (by rw [hT]; exact k6)
        (fun _ h => by cases h) (fun _ h => by cases h) (fun h => by cases h) (fun h => by cases h) hk0 hk1 hkk0 hkk1 (by decide) (ng sp g3) (ng dp g4) (ng n g5)
        (by rw [arrV_size]; omega) (by rw [arrV_size]; omega)
        (fun vm₁ _ i hi => by
          have e : (arrV c0 (mm_K μ src).2 (fun k => fv (aty 20) (mm_I μ src k) (mm_L μ src k) (mm_P μ src k))).slots.getD (sp.toNatClampNeg + i) .null = .int (mm_I μ src (sp.toNatClampNeg + i)) := by
            rw [Array.getD_eq_getD_getElem?, arrV_read _ _ (by omega)]
            rfl
          rw [e]
          exact ⟨rfl, trivial⟩)
        (g := F0 m pc ls (.int n :: .int dp :: .ref dst :: .int sp :: .ref src :: st)) rfl (by rw [C.2.2.1]; exact hl.1) (rest := st) rfl (by rw [C.2.1]; exact hd) hR.1 (by
          have h9 : nativeFrameWords "java/lang/System" "arraycopy" 5 = 7 := by decide
          rw [h9]
          have := lv_room (m := m) (pc := pc) (ls := ls) (rest := .int n :: .int dp :: .ref dst :: .int sp :: .ref src :: st) hW
          omega)
      have e9 : copied (arrV c0 (mm_K μ src).2 (fun k => fv (aty 20) (mm_I μ src k) (mm_L μ src k) (mm_P μ src k))) (arrV c1 (mm_K μ dst).2 (fun k => fv (aty 20) (mm_I μ dst k) (mm_L μ dst k) (mm_P μ dst k))) sp dp n = arrV c1 (mm_K μ dst).2 (fun j => .int (va_cpy (mm_I μ src) (mm_I μ dst) sp.toNatClampNeg dp.toNatClampNeg n.toNatClampNeg j)) :=
        va_copied (fun z => .int z) c0 c1 (mm_I μ src) (mm_I μ dst) (by omega)
      rw [e9] at X' step
      have hlt : dst < H.size := (Array.getElem?_eq_some_iff.mp k6).1
      generalize hH1 : H.setIfInBounds dst (arrV c1 (mm_K μ dst).2 (fun j => .int (va_cpy (mm_I μ src) (mm_I μ dst) sp.toNatClampNeg dp.toNatClampNeg n.toNatClampNeg j))) = H1
      have hheap : ((T.setVm vm').setCell dst (arrV c1 (mm_K μ dst).2 (fun j => .int (va_cpy (mm_I μ src) (mm_I μ dst) sp.toNatClampNeg dp.toNatClampNeg n.toNatClampNeg j)))).heap = H1 := by rw [← hH1, ← hT]; rfl
      have oq : ∀ q : Nat, q ≠ dst → H1[q]? = H[q]? := fun q hq => by rw [← hH1]; simp [Array.getElem?_setIfInBounds, Ne.symm hq]
      have oa : H1[dst]? = some (arrV c1 (mm_K μ dst).2 (fun j => .int (va_cpy (mm_I μ src) (mm_I μ dst) sp.toNatClampNeg dp.toNatClampNeg n.toNatClampNeg j))) := by rw [← hH1]; simp [Array.getElem?_setIfInBounds, hlt]
      have hS' : Sim G s (ms_A μ dst (va_cpy (mm_I μ src) (mm_I μ dst) sp.toNatClampNeg dp.toNatClampNeg n.toNatClampNeg)) H1 := by
        refine hS.one ha (by rw [← hH1]; simp) oq rfl rfl rfl (fun b hb => u1_n _ _ hb) (fun _ _ => rfl) (fun _ _ => rfl) (fun _ h9 => by omega) (fun _ _ => ?_)
        rw [g2]
        refine ⟨c1, k4, k5, oa.trans ?_⟩
        congr 2
        funext j
        show _ = Value.int (u1 μ.1 dst _ dst j)
        rw [u1_s]
      obtain ⟨t, a1, b1⟩ := kk p l e s m args below meth c H1 _ ls C hS' (fun q hq => by
        rcases List.mem_append.mp hq with h | h
        · exact hL q h
        · obtain ⟨z, -, hz⟩ := List.mem_map.mp h
          rw [← hz]
          exact ha) hl _ hheap X'
      exact ⟨t, step t a1, b1⟩
    · cases hx
def sx_ix (a : Nat) (μ : Mm) : Option Nat := (List.range 14).find? (fun i => mm_S μ i == a)
def sx_len (a : Nat) (μ : Mm) : Option Int32 := (sx_ix a μ).map (fun i => nI (s_ln.getD i 0))
def sx_at (a : Nat) (j : Int32) (μ : Mm) : Option Int32 := (sx_ix a μ).bind fun i => if 0 ≤ j.toInt ∧ j.toInt < s_ln.getD i 0 then some ((s_by.getD i []).getD j.toNatClampNeg 0) else none
theorem sx_ix_s {a i : Nat} {μ : Mm} (h : sx_ix a μ = some i) : i < 14 ∧ mm_S μ i = a := by
  have h1 := List.find?_some h
  have h2 := List.mem_of_find?_eq_some h
  exact ⟨List.mem_range.mp h2, by simpa using h1⟩
theorem sx_len_ix {a : Nat} {μ : Mm} {x : Int32} (h : sx_len a μ = some x) : ∃ i, i < 14 ∧ mm_S μ i = a := by
  unfold sx_len at h
  cases hi : sx_ix a μ with
  | none => rw [hi] at h; cases h
  | some i => exact ⟨i, sx_ix_s hi⟩
theorem sx_at_ix {a : Nat} {j : Int32} {μ : Mm} {x : Int32} (h : sx_at a j μ = some x) : ∃ i, i < 14 ∧ mm_S μ i = a := by
  unfold sx_at at h
  cases hi : sx_ix a μ with
  | none => rw [hi] at h; cases h
  | some i => exact ⟨i, sx_ix_s hi⟩
theorem tab_out5 {x : Int32} (h0 : ¬ x = 0) (h1 : ¬ x = 1) (h2 : ¬ x = 2) (h3 : ¬ x = 3) (h4 : ¬ x = 4) : x.toInt < 0 ∨ 4 < x.toInt := by
  have q0 : x.toInt ≠ 0 := fun he => h0 (Int32.toInt_inj.mp (he.trans (by decide)))
  have q1 : x.toInt ≠ 1 := fun he => h1 (Int32.toInt_inj.mp (he.trans (by decide)))
  have q2 : x.toInt ≠ 2 := fun he => h2 (Int32.toInt_inj.mp (he.trans (by decide)))
  have q3 : x.toInt ≠ 3 := fun he => h3 (Int32.toInt_inj.mp (he.trans (by decide)))
  have q4 : x.toInt ≠ 4 := fun he => h4 (Int32.toInt_inj.mp (he.trans (by decide)))
  omega
theorem tab_out6 {x : Int32} (h0 : ¬ x = 0) (h1 : ¬ x = 1) (h2 : ¬ x = 2) (h3 : ¬ x = 3) (h4 : ¬ x = 4) (h5 : ¬ x = 5) : x.toInt < 0 ∨ 5 < x.toInt := by
  have q0 : x.toInt ≠ 0 := fun he => h0 (Int32.toInt_inj.mp (he.trans (by decide)))
  have q1 : x.toInt ≠ 1 := fun he => h1 (Int32.toInt_inj.mp (he.trans (by decide)))
  have q2 : x.toInt ≠ 2 := fun he => h2 (Int32.toInt_inj.mp (he.trans (by decide)))
  have q3 : x.toInt ≠ 3 := fun he => h3 (Int32.toInt_inj.mp (he.trans (by decide)))
  have q4 : x.toInt ≠ 4 := fun he => h4 (Int32.toInt_inj.mp (he.trans (by decide)))
  have q5 : x.toInt ≠ 5 := fun he => h5 (Int32.toInt_inj.mp (he.trans (by decide)))
  omega
theorem tab_out8 {x : Int32} (h0 : ¬ x = 0) (h1 : ¬ x = 1) (h2 : ¬ x = 2) (h3 : ¬ x = 3) (h4 : ¬ x = 4) (h5 : ¬ x = 5) (h6 : ¬ x = 6) (h7 : ¬ x = 7) : x.toInt < 0 ∨ 7 < x.toInt := by
  have q0 : x.toInt ≠ 0 := fun he => h0 (Int32.toInt_inj.mp (he.trans (by decide)))
  have q1 : x.toInt ≠ 1 := fun he => h1 (Int32.toInt_inj.mp (he.trans (by decide)))
  have q2 : x.toInt ≠ 2 := fun he => h2 (Int32.toInt_inj.mp (he.trans (by decide)))
  have q3 : x.toInt ≠ 3 := fun he => h3 (Int32.toInt_inj.mp (he.trans (by decide)))
  have q4 : x.toInt ≠ 4 := fun he => h4 (Int32.toInt_inj.mp (he.trans (by decide)))
  have q5 : x.toInt ≠ 5 := fun he => h5 (Int32.toInt_inj.mp (he.trans (by decide)))
  have q6 : x.toInt ≠ 6 := fun he => h6 (Int32.toInt_inj.mp (he.trans (by decide)))
  have q7 : x.toInt ≠ 7 := fun he => h7 (Int32.toInt_inj.mp (he.trans (by decide)))
  omega
theorem tab_out9 {x : Int32} (h0 : ¬ x = 0) (h1 : ¬ x = 1) (h2 : ¬ x = 2) (h3 : ¬ x = 3) (h4 : ¬ x = 4) (h5 : ¬ x = 5) (h6 : ¬ x = 6) (h7 : ¬ x = 7) (h8 : ¬ x = 8) : x.toInt < 0 ∨ 8 < x.toInt := by
  have q0 : x.toInt ≠ 0 := fun he => h0 (Int32.toInt_inj.mp (he.trans (by decide)))
  have q1 : x.toInt ≠ 1 := fun he => h1 (Int32.toInt_inj.mp (he.trans (by decide)))
  have q2 : x.toInt ≠ 2 := fun he => h2 (Int32.toInt_inj.mp (he.trans (by decide)))
  have q3 : x.toInt ≠ 3 := fun he => h3 (Int32.toInt_inj.mp (he.trans (by decide)))
  have q4 : x.toInt ≠ 4 := fun he => h4 (Int32.toInt_inj.mp (he.trans (by decide)))
  have q5 : x.toInt ≠ 5 := fun he => h5 (Int32.toInt_inj.mp (he.trans (by decide)))
  have q6 : x.toInt ≠ 6 := fun he => h6 (Int32.toInt_inj.mp (he.trans (by decide)))
  have q7 : x.toInt ≠ 7 := fun he => h7 (Int32.toInt_inj.mp (he.trans (by decide)))
  have q8 : x.toInt ≠ 8 := fun he => h8 (Int32.toInt_inj.mp (he.trans (by decide)))
  omega
theorem tab_out12 {x : Int32} (h0 : ¬ x = 0) (h1 : ¬ x = 1) (h2 : ¬ x = 2) (h3 : ¬ x = 3) (h4 : ¬ x = 4) (h5 : ¬ x = 5) (h6 : ¬ x = 6) (h7 : ¬ x = 7) (h8 : ¬ x = 8) (h9 : ¬ x = 9) (h10 : ¬ x = 10) (h11 : ¬ x = 11) : x.toInt < 0 ∨ 11 < x.toInt := by
  have q0 : x.toInt ≠ 0 := fun he => h0 (Int32.toInt_inj.mp (he.trans (by decide)))
  have q1 : x.toInt ≠ 1 := fun he => h1 (Int32.toInt_inj.mp (he.trans (by decide)))
  have q2 : x.toInt ≠ 2 := fun he => h2 (Int32.toInt_inj.mp (he.trans (by decide)))
  have q3 : x.toInt ≠ 3 := fun he => h3 (Int32.toInt_inj.mp (he.trans (by decide)))
  have q4 : x.toInt ≠ 4 := fun he => h4 (Int32.toInt_inj.mp (he.trans (by decide)))
  have q5 : x.toInt ≠ 5 := fun he => h5 (Int32.toInt_inj.mp (he.trans (by decide)))
  have q6 : x.toInt ≠ 6 := fun he => h6 (Int32.toInt_inj.mp (he.trans (by decide)))
  have q7 : x.toInt ≠ 7 := fun he => h7 (Int32.toInt_inj.mp (he.trans (by decide)))
  have q8 : x.toInt ≠ 8 := fun he => h8 (Int32.toInt_inj.mp (he.trans (by decide)))
  have q9 : x.toInt ≠ 9 := fun he => h9 (Int32.toInt_inj.mp (he.trans (by decide)))
  have q10 : x.toInt ≠ 10 := fun he => h10 (Int32.toInt_inj.mp (he.trans (by decide)))
  have q11 : x.toInt ≠ 11 := fun he => h11 (Int32.toInt_inj.mp (he.trans (by decide)))
  omega
theorem tab_out38 {x : Int32} (h0 : ¬ x = 0) (h1 : ¬ x = 1) (h2 : ¬ x = 2) (h3 : ¬ x = 3) (h4 : ¬ x = 4) (h5 : ¬ x = 5) (h6 : ¬ x = 6) (h7 : ¬ x = 7) (h8 : ¬ x = 8) (h9 : ¬ x = 9) (h10 : ¬ x = 10) (h11 : ¬ x = 11) (h12 : ¬ x = 12) (h13 : ¬ x = 13) (h14 : ¬ x = 14) (h15 : ¬ x = 15) (h16 : ¬ x = 16) (h17 : ¬ x = 17) (h18 : ¬ x = 18) (h19 : ¬ x = 19) (h20 : ¬ x = 20) (h21 : ¬ x = 21) (h22 : ¬ x = 22) (h23 : ¬ x = 23) (h24 : ¬ x = 24) (h25 : ¬ x = 25) (h26 : ¬ x = 26) (h27 : ¬ x = 27) (h28 : ¬ x = 28) (h29 : ¬ x = 29) (h30 : ¬ x = 30) (h31 : ¬ x = 31) (h32 : ¬ x = 32) (h33 : ¬ x = 33) (h34 : ¬ x = 34) (h35 : ¬ x = 35) (h36 : ¬ x = 36) (h37 : ¬ x = 37) : x.toInt < 0 ∨ 37 < x.toInt := by
  have q0 : x.toInt ≠ 0 := fun he => h0 (Int32.toInt_inj.mp (he.trans (by decide)))
  have q1 : x.toInt ≠ 1 := fun he => h1 (Int32.toInt_inj.mp (he.trans (by decide)))
  have q2 : x.toInt ≠ 2 := fun he => h2 (Int32.toInt_inj.mp (he.trans (by decide)))
  have q3 : x.toInt ≠ 3 := fun he => h3 (Int32.toInt_inj.mp (he.trans (by decide)))
  have q4 : x.toInt ≠ 4 := fun he => h4 (Int32.toInt_inj.mp (he.trans (by decide)))
  have q5 : x.toInt ≠ 5 := fun he => h5 (Int32.toInt_inj.mp (he.trans (by decide)))
  have q6 : x.toInt ≠ 6 := fun he => h6 (Int32.toInt_inj.mp (he.trans (by decide)))
  have q7 : x.toInt ≠ 7 := fun he => h7 (Int32.toInt_inj.mp (he.trans (by decide)))
  have q8 : x.toInt ≠ 8 := fun he => h8 (Int32.toInt_inj.mp (he.trans (by decide)))
  have q9 : x.toInt ≠ 9 := fun he => h9 (Int32.toInt_inj.mp (he.trans (by decide)))
  have q10 : x.toInt ≠ 10 := fun he => h10 (Int32.toInt_inj.mp (he.trans (by decide)))
  have q11 : x.toInt ≠ 11 := fun he => h11 (Int32.toInt_inj.mp (he.trans (by decide)))
  have q12 : x.toInt ≠ 12 := fun he => h12 (Int32.toInt_inj.mp (he.trans (by decide)))
  have q13 : x.toInt ≠ 13 := fun he => h13 (Int32.toInt_inj.mp (he.trans (by decide)))
  have q14 : x.toInt ≠ 14 := fun he => h14 (Int32.toInt_inj.mp (he.trans (by decide)))
  have q15 : x.toInt ≠ 15 := fun he => h15 (Int32.toInt_inj.mp (he.trans (by decide)))
  have q16 : x.toInt ≠ 16 := fun he => h16 (Int32.toInt_inj.mp (he.trans (by decide)))
  have q17 : x.toInt ≠ 17 := fun he => h17 (Int32.toInt_inj.mp (he.trans (by decide)))
  have q18 : x.toInt ≠ 18 := fun he => h18 (Int32.toInt_inj.mp (he.trans (by decide)))
  have q19 : x.toInt ≠ 19 := fun he => h19 (Int32.toInt_inj.mp (he.trans (by decide)))
  have q20 : x.toInt ≠ 20 := fun he => h20 (Int32.toInt_inj.mp (he.trans (by decide)))
  have q21 : x.toInt ≠ 21 := fun he => h21 (Int32.toInt_inj.mp (he.trans (by decide)))
  have q22 : x.toInt ≠ 22 := fun he => h22 (Int32.toInt_inj.mp (he.trans (by decide)))
  have q23 : x.toInt ≠ 23 := fun he => h23 (Int32.toInt_inj.mp (he.trans (by decide)))
  have q24 : x.toInt ≠ 24 := fun he => h24 (Int32.toInt_inj.mp (he.trans (by decide)))
  have q25 : x.toInt ≠ 25 := fun he => h25 (Int32.toInt_inj.mp (he.trans (by decide)))
  have q26 : x.toInt ≠ 26 := fun he => h26 (Int32.toInt_inj.mp (he.trans (by decide)))
  have q27 : x.toInt ≠ 27 := fun he => h27 (Int32.toInt_inj.mp (he.trans (by decide)))
  have q28 : x.toInt ≠ 28 := fun he => h28 (Int32.toInt_inj.mp (he.trans (by decide)))
  have q29 : x.toInt ≠ 29 := fun he => h29 (Int32.toInt_inj.mp (he.trans (by decide)))
  have q30 : x.toInt ≠ 30 := fun he => h30 (Int32.toInt_inj.mp (he.trans (by decide)))
  have q31 : x.toInt ≠ 31 := fun he => h31 (Int32.toInt_inj.mp (he.trans (by decide)))
  have q32 : x.toInt ≠ 32 := fun he => h32 (Int32.toInt_inj.mp (he.trans (by decide)))
  have q33 : x.toInt ≠ 33 := fun he => h33 (Int32.toInt_inj.mp (he.trans (by decide)))
  have q34 : x.toInt ≠ 34 := fun he => h34 (Int32.toInt_inj.mp (he.trans (by decide)))
  have q35 : x.toInt ≠ 35 := fun he => h35 (Int32.toInt_inj.mp (he.trans (by decide)))
  have q36 : x.toInt ≠ 36 := fun he => h36 (Int32.toInt_inj.mp (he.trans (by decide)))
  have q37 : x.toInt ≠ 37 := fun he => h37 (Int32.toInt_inj.mp (he.trans (by decide)))
  omega
theorem m_sx_len {G : Gv} (a0 : Nat) (μ : Mm) {r : Int32} (hx : sx_len a0 μ = some r) : Mt G yJ0_length_8abf5 cJ0_length_8abf5 1 (some .int) 2 0 0 [.ref a0] μ (fun v μ' => v = some (.int r) ∧ μ' = μ) := by
  sorry
theorem m_sx_at {G : Gv} (a0 : Nat) (l1 : Int32) (μ : Mm) {r : Int32} (hx : sx_at a0 l1 μ = some r) : Mt G yJ0_charAt_5068e cJ0_charAt_5068e 2 (some .char) 2 0 0 [.ref a0, .int l1] μ (fun v μ' => v = some (.int r) ∧ μ' = μ) := by
  sorry
section RS
variable {G : Gv} {own : String} {cc : ByteArray} {nL : Nat} {ret : Option FieldType} {nm : String} {R : Room} {Z : Zt} {cells slots pc : Nat} {lv : List (Nat × Value)} {μ : Mm}
theorem r_cStr {y : MethodName} {cc' : ByteArray} {nL' d' n idx b : Nat} {ret' : Option FieldType} (As st : List Value) {stk : List Value} {rv : Option Value} {μ1 : Mm} (hM : Mt G y cc' nL' ret' d' 0 0 (.ref b :: As) μ (fun v μ' => v = rv ∧ μ' = μ1)) (hc : Ck y cc' nL' ret' n) (hlk : Lk own idx y) (hin : Cond.instanceMethod y ∈ lw_ok) (hse : Cond.selects y.cls y y ∈ lw_ok)
    (hs : ∃ i, i < 14 ∧ mm_S μ i = b) (hy : y.cls = "java/lang/String") (hn : As.length = n) (hst : stk = As.reverse ++ .ref b :: st) (hW : (st.map fun v => v.category).sum ≤ 8) (hR : d' + 1 ≤ R.frames ∧ 64 * d' + 64 ≤ R.locals) (hcs : cells ≤ R.cells ∧ slots ≤ R.slots) (hd : decode cc pc = .ok (.invokevirtual idx, 3))
    (kk : Rn G own cc nL ret nm R Z cells slots (pc + 3) lv (rv.toList ++ st) μ1) : Rn G own cc nL ret nm R Z cells slots pc lv stk μ :=
  fun p l e s m args below meth c H locs ls C hS hL hl => by
    subst hst
    obtain ⟨i, hi, hb⟩ := hs
    obtain ⟨hc1, hc2, hc3, hc4⟩ := hc
    obtain ⟨⟨adV, hE, -⟩, -⟩ := hS.2.2.2.2.2.2
    obtain ⟨⟨cell, q1, q2, q3, -⟩, -⟩ := hE i hi
    have hb' : G.2 i = b := by rw [← hS.2.2.2.2.2.1]; exact hb
    rw [hb'] at q1
    have hts := C.2.2.2.2.2.2.1
    have hp : PreV s H y.cls b (va_Pc (.ref b :: As) (fun U => Sim G U μ U.heap ∧ Ex G U)) As := ⟨blind_of _, ⟨cell, q1, q2, by rw [hy]; exact q3⟩, fun U hU hW => ⟨rfl, by rw [hU]; exact hS.moved hW.alike, C.2.2.2.2.2.2.2.2.warm hW⟩⟩
    have hRm : (rmd d' 0 0).frames + 1 ≤ R.frames ∧ 8 + (nL' + 11) + (rmd d' 0 0).locals ≤ R.locals := ⟨hR.1, by show 8 + (nL' + 11) + 64 * d' ≤ _; omega⟩
    have hfix : CallFix p m c cc nL s args lw_ok own := ⟨C.1, C.2.1, C.2.2.1, C.2.2.2.2.2.1, hts⟩
    rcases hlk with hlk | ⟨host, hlk⟩
    · exact of_run (va_runV (rest := st) hfix (hM l) ⟨callB_of n hts (ck_good hc1) rfl rfl rfl (hts _ hc2) (hts _ hlk) hc3 hRm, hts _ hin, hts _ hse⟩ hp rfl hn hl.1 rfl (lv_room hW) hd hcs) C hL hl (fun v μ' h => by obtain ⟨rfl, rfl⟩ := h; exact kk)
    · exact of_run (va_runVN (rest := st) hfix (hM l) ⟨va_cnB n hts (ck_good hc1) rfl rfl rfl (C.2.2.2.2.2.2.2.2.2.1 _ hlk) (hts _ hc2) hc3 hRm, hts _ hin, hts _ hse⟩ hp rfl hn hl.1 rfl (lv_room hW) hd hcs) C hL hl (fun v μ' h => by obtain ⟨rfl, rfl⟩ := h; exact kk)
theorem r_mmax {idx : Nat} {st : List Value} {x y : Int32} (h1 : Cond.methodLink own idx Lib.Math.max.name ∈ lw_ok) (h2 : Cond.static Lib.Math.max.name ∈ lw_ok) (h3 : Cond.initialized "java/lang/Math" ∈ lw_ok) (h4 : Cond.code Lib.Math.max.name Lib.Math.max.code 2 (some .int) ∈ lw_ok) (hW : (st.map fun v => v.category).sum ≤ 8) (hR : 1 ≤ R.frames ∧ 64 ≤ R.locals) (hcs : cells ≤ R.cells ∧ slots ≤ R.slots) (hd : decode cc pc = .ok (.invokestatic idx, 3))
    (kk : Rn G own cc nL ret nm R Z cells slots (pc + 3) lv (.int (if x < y then y else x) :: st) μ) : Rn G own cc nL ret nm R Z cells slots pc lv (.int y :: .int x :: st) μ :=
  fun p l e s m args below meth c H locs ls C hS hL hl =>
    va_mmax C.1 C.2.1 (C.2.2.1.trans hl.1.symm) C.2.2.2.2.2.1 (C.2.2.2.2.2.2.1 _ h1) (C.2.2.2.2.2.2.1 _ h2) (C.2.2.2.2.2.2.1 _ h3) (C.2.2.2.2.2.2.1 _ h4) hR.1 (by omega) hcs.1 hcs.2 hd (kk p l e s m args below meth c H locs ls C hS hL hl)
theorem r_mmin {idx : Nat} {st : List Value} {x y : Int32} (h1 : Cond.methodLink own idx Lib.Math.min.name ∈ lw_ok) (h2 : Cond.static Lib.Math.min.name ∈ lw_ok) (h3 : Cond.initialized "java/lang/Math" ∈ lw_ok) (h4 : Cond.code Lib.Math.min.name Lib.Math.min.code 2 (some .int) ∈ lw_ok) (hW : (st.map fun v => v.category).sum ≤ 8) (hR : 1 ≤ R.frames ∧ 64 ≤ R.locals) (hcs : cells ≤ R.cells ∧ slots ≤ R.slots) (hd : decode cc pc = .ok (.invokestatic idx, 3))
    (kk : Rn G own cc nL ret nm R Z cells slots (pc + 3) lv (.int (if y < x then y else x) :: st) μ) : Rn G own cc nL ret nm R Z cells slots pc lv (.int y :: .int x :: st) μ :=
  fun p l e s m args below meth c H locs ls C hS hL hl =>
    va_mmin C.1 C.2.1 (C.2.2.1.trans hl.1.symm) C.2.2.2.2.2.1 (C.2.2.2.2.2.2.1 _ h1) (C.2.2.2.2.2.2.1 _ h2) (C.2.2.2.2.2.2.1 _ h3) (C.2.2.2.2.2.2.1 _ h4) hR.1 (by omega) hcs.1 hcs.2 hd (kk p l e s m args below meth c H locs ls C hS hL hl)
end RS
