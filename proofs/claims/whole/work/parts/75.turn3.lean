/-! ===== the class's Turnings: rows by number, numbers by row, all rows ===== -/
theorem sg_mono (g : Nat → Nat) {a b : Nat} (h : a ≤ b) : sg g a ≤ sg g b := by
  induction b with
  | zero => rw [Nat.le_zero.mp h]; exact Nat.le_refl _
  | succ b ih =>
    by_cases e : a = b + 1
    · rw [e]; exact Nat.le_refl _
    · have := ih (by omega)
      show _ ≤ sg g b + g b
      omega
theorem sg_find (g : Nat → Nat) : ∀ {m k : Nat}, k < sg g m → ∃ q j, q < m ∧ k = sg g q + j ∧ j < g q := by
  intro m
  induction m with
  | zero => intro k h; exact absurd h (Nat.not_lt_zero _)
  | succ m ih =>
    intro k h
    have h : k < sg g m + g m := h
    by_cases e : k < sg g m
    · obtain ⟨q, j, h1, h2, h3⟩ := ih e
      exact ⟨q, j, by omega, h2, h3⟩
    · exact ⟨m, k - sg g m, by omega, by omega, by omega⟩
theorem cat_get {α : Type} (g : Nat → List α) : ∀ {m q j : Nat}, q < m → j < (g q).length → (cat g m)[sg (fun q => (g q).length) q + j]? = (g q)[j]? := by
  intro m
  induction m with
  | zero => intro q j h; omega
  | succ m ih =>
    intro q j h hj
    show (cat g m ++ g m)[_]? = _
    by_cases e : q = m
    · subst e
      rw [List.getElem?_append_right (by rw [cat_len]; omega), cat_len, Nat.add_sub_cancel_left]
    · have h2 : sg (fun q => (g q).length) q + j < (cat g m).length := by
        rw [cat_len]
        have h3 : sg (fun q => (g q).length) (q + 1) ≤ sg (fun q => (g q).length) m := sg_mono _ (by omega)
        have h4 : sg (fun q => (g q).length) (q + 1) = sg (fun q => (g q).length) q + (g q).length := rfl
        omega
      rw [List.getElem?_append_left h2]
      exact ih (by omega) hj
theorem EN_n (T : Tn) : (EN T).length = wy T 0 := by
  have h : suba T 0 = true := suba_t.mpr (fun i _ h => by rw [Nat.zero_testBit] at h; cases h)
  unfold EN wy
  rw [en_len, h, if_pos rfl, show pc 0 = 0 from by decide, List.drop_zero]
theorem e_howMany {c : Nat} {T : Tn} {μ : Mm} (hc : TwS c (mm_K μ) (mm_P μ)) (hp : TuP c T μ) : f_X9_howMany (c + 14) μ = some (nI (EN T).length) := by
  unfold f_X9_howMany
  have h := tc_a17 hc (i := 0) (by decide)
  rw [if_pos (by simp only [tc_tk hc]), tc_tp2 hc, ob, show (0 : Int32) = nI 0 from rfl, h, ob, hp.2.2.2 0 (by decide), EN_n]
theorem rowOf_run {c : Nat} {T : Tn} {μ : Mm} (hc : TwS c (mm_K μ) (mm_P μ)) (ok : OkT T) (hp : TuP c T μ) : ∀ (ds : List Nat) (i u r k : Nat), (drf T 0 (T 0 0)).drop i = ds → i ≤ (drf T 0 (T 0 0)).length → u < 256 → pc u = i → suba T u = true → (∀ p ∈ ds, nb r p = 0) → k < cn (okc T) ds u → ∃ r', (en (okc T) ds u r)[k]? = some r' ∧ whl (f_X9_rowOf_L10 (c + 14) μ) (nI (cw (T 0 0) ds r), nI u, nI k, nI i) = some (nI (cw (T 0 0) [] r')) := by
  have hn := ok.1.1
  have hl := drf_len T (T 0 0) 0
  intro ds
  induction ds with
  | nil =>
    intro i u r k hd hi hu hpc hs h0 hk
    have hlen : (drf T 0 (T 0 0)).length ≤ i := by
      have := congrArg List.length hd
      rw [List.length_drop] at this
      simp at this
      omega
    have hk0 : k = 0 := by have : cn (okc T) [] u = 1 := rfl; omega
    subst hk0
    refine ⟨r, rfl, whl_r ?_⟩
    simp only [f_X9_rowOf_L10]
    rw [tc_tf hc, ob, hp.1, if_pos (nI_le hlen (by omega))]
  | cons p ds ih =>
    intro i u r k hd hi hu hpc hs h0 hk
    have hil : i < (drf T 0 (T 0 0)).length := by
      have := congrArg List.length hd
      rw [List.length_drop] at this
      simp at this
      omega
    have hcons := List.drop_eq_getElem_cons hil
    rw [hd] at hcons
    have hpe : (drf T 0 (T 0 0))[i] = p := (List.cons.inj hcons).1.symm
    have hdt : (drf T 0 (T 0 0)).drop (i + 1) = ds := (List.cons.inj hcons).2.symm
    have hm : p ∈ drf T 0 (T 0 0) := hpe ▸ List.getElem_mem hil
    have hpm := drf_mem.mp hm
    have hnd : (p :: ds).Nodup := hd ▸ (drf_nodup T _ _).sublist (List.drop_sublist _ _)
    have hnd2 := List.nodup_cons.mp hnd
    have hk : k < sg (fun q => if okc T p q && !u.testBit q then cn (okc T) ds (u ||| 2 ^ q) else 0) 8 := hk
    have hsm := Nat.lt_of_lt_of_le hk (Nat.le_trans (Nat.le_of_eq rfl) (cn_le (okc T) (p :: ds) u))
    have hds8 : (p :: ds).length ≤ 8 := by rw [← hd, List.length_drop]; omega
    have hk31 : k < 2 ^ 31 := Nat.lt_of_lt_of_le hsm (Nat.le_trans (Nat.pow_le_pow_right (by decide) hds8) (by decide))
    obtain ⟨q, j, hq, hkj, hj⟩ := sg_find _ hk
    have hfree : (okc T p q && !u.testBit q) = true := by
      cases h : (okc T p q && !u.testBit q) with
      | true => rfl
      | false => rw [h] at hj; simp at hj
    have hj2 : j < cn (okc T) ds (u ||| 2 ^ q) := by rw [hfree] at hj; simpa using hj
    have hwy := wy_or ok (by omega) hu hq hs hpc hfree
    rw [hdt] at hwy
    have hp0 := h0 p List.mem_cons_self
    obtain ⟨r', h1, h2⟩ := ih (i + 1) (u ||| 2 ^ q) (r + q * 16 ^ p) j hdt (by omega) (or_lt8 hu hq) hwy.2.1 hwy.2.2 (fun p' hp' => by
      rw [nb_add hp0 (by omega), if_neg (show ¬ p' = p from fun e => hnd2.1 (e ▸ hp'))]
      exact h0 p' (List.mem_cons_of_mem _ hp')) hj2
    refine ⟨r', ?_, ?_⟩
    · show (cat _ 8)[k]? = some r'
      have hlen : ∀ x, (if okc T p x && !u.testBit x then en (okc T) ds (u ||| 2 ^ x) (r + x * 16 ^ p) else []).length = if okc T p x && !u.testBit x then cn (okc T) ds (u ||| 2 ^ x) else 0 := fun x => by
        split
        · exact en_len _ _ _ _
        · rfl
      have := cat_get (fun x => if okc T p x && !u.testBit x then en (okc T) ds (u ||| 2 ^ x) (r + x * 16 ^ p) else []) (m := 8) (q := q) (j := j) hq (by rw [hlen]; exact hj)
      rw [sg_x (h := fun x => if okc T p x && !u.testBit x then cn (okc T) ds (u ||| 2 ^ x) else 0) (fun x _ => hlen x), ← hkj] at this
      rw [this, if_pos hfree, h1]
    · rw [whl_l ?_]
      · exact h2
      · simp only [f_X9_rowOf_L10]
        rw [tc_tf hc, ob, hp.1, if_neg (by rw [nI_le_i (by omega) (by omega)]; omega), tc_tp1 hc, ob, tc_tp0 hc, ob, tc_a15 hc (by omega), ob, hp.2.1 i hil, hpe, tc_a16 hc (by omega), ob, hp.2.2.1 p hm, ob, free_b]
        have hrun : whl (f_X9_rowOf_L40 (c + 14) (nI (cw (T 0 0) (p :: ds) r)) (nI u) (nI i) (nI (bm (fun q => okc T p q && !u.testBit q) 8)) μ) (nI k, (0 : Int32)) = some (.inl (nI j, nI q)) := by
          refine whl_c q (fun x => (nI (k - sg (fun q => if okc T p q && !u.testBit q then cn (okc T) ds (u ||| 2 ^ q) else 0) x), nI x)) rfl (fun x hx => ?_) ?_
          · have hx8 : x < 8 := by omega
            have hmono := sg_mono (fun q => if okc T p q && !u.testBit q then cn (okc T) ds (u ||| 2 ^ q) else 0) (by omega : x + 1 ≤ q)
            have hsx : sg (fun q => if okc T p q && !u.testBit q then cn (okc T) ds (u ||| 2 ^ q) else 0) (x + 1) = sg (fun q => if okc T p q && !u.testBit q then cn (okc T) ds (u ||| 2 ^ q) else 0) x + (if okc T p x && !u.testBit x then cn (okc T) ds (u ||| 2 ^ x) else 0) := rfl
            rw [hsx] at hmono
            simp only [hsx]
            generalize sg (fun q => if okc T p q && !u.testBit q then cn (okc T) ds (u ||| 2 ^ q) else 0) x = sx at hmono
            simp only [f_X9_rowOf_L40, f_X9_rowOf_J108, bmb hx8 (by decide : 8 ≤ 31), nI_b0, nI_1, ob, tc_tp2 hc]
            rw [if_neg (by rw [show (8 : Int32) = nI 8 from rfl, nI_le_i (by omega) (by omega)]; omega)]
            by_cases e2 : (okc T p x && !u.testBit x) = true
            · have hwx := wy_or ok (by omega) hu hx8 hs hpc e2
              rw [hdt] at hwx
              rw [if_pos e2] at hmono ⊢
              rw [if_neg (by rw [e2]; decide), b_one (by omega), nI_or, tc_a17 hc (or_lt8 hu hx8), ob, hp.2.2.2 _ (or_lt8 hu hx8), hwx.1, if_pos (nI_le (by omega) (by omega)), pk_sub (by omega), Nat.sub_sub]
            · rw [if_neg e2] at hmono ⊢
              rw [if_pos (by simpa using e2)]; rfl
          · simp only [f_X9_rowOf_L40, bmb hq (by decide : 8 ≤ 31), nI_b0, ob, tc_tp2 hc]
            rw [if_neg (by rw [show (8 : Int32) = nI 8 from rfl, nI_le_i (by omega) (by omega)]; omega), if_neg (by rw [hfree]; decide), b_one (by omega), nI_or, tc_a17 hc (or_lt8 hu hq), ob, hp.2.2.2 _ (or_lt8 hu hq), hwy.1, show k - sg (fun q => if okc T p q && !u.testBit q then cn (okc T) ds (u ||| 2 ^ q) else 0) q = j by omega]
            have hb : cn (okc T) ds (u ||| 2 ^ q) < 2 ^ 31 := by rw [← hwy.1]; exact wy_b ok _
            rw [if_neg (by rw [nI_le_i (by omega) (by omega)]; omega)]
        rw [hrun, ob]
        show f_X9_rowOf_J77 _ _ _ _ _ _ _ = _
        unfold f_X9_rowOf_J77 f_X9_rowOf_J114
        rw [tc_tp0 hc, ob, tc_a15 hc (by omega), ob, hp.2.1 i hil, hpe, e_with (by omega) hn (by omega) hnd2.1 hp0, ob, b_one (by omega), nI_or, ob, ob, nI_1]
theorem cw_start (T : Tn) (ok : OkT T) : cw (T 0 0) (drf T 0 (T 0 0)) (alb T 0 (T 0 0)) = 2 ^ 32 - 1 := by
  have hn := ok.1.1
  apply nb_inj (n := 8)
  · rw [m16_8]; exact cw_lt _ _ _
  · rw [m16_8]; decide
  · intro p hp
    rw [cw_nb _ _ _ _ hp, nb_full p hp]
    by_cases h : T 0 0 ≤ p ∨ p ∈ drf T 0 (T 0 0)
    · rw [if_pos h]
    · rw [if_neg h, nb_alb, if_pos]
      refine ⟨Nat.zero_le _, by omega, ?_⟩
      cases ha : (T 0 7).testBit p with
      | true => rfl
      | false => exact absurd (Or.inr (drf_mem.mpr ⟨Nat.zero_le _, by omega, ha⟩)) h
/-- the class's row of the k-th turning -/
def cr (T : Tn) (r : Nat) : Nat := cw (T 0 0) [] r
theorem cr_nb {T : Tn} {r p : Nat} (hp : p < 8) : nb (cr T r) p = dT T r p := by
  unfold cr dT
  rw [cw_nb _ _ _ _ hp]
  by_cases h : p < T 0 0
  · rw [if_pos h, if_neg (fun q => q.elim (fun q => by omega) (fun q => by cases q))]
  · rw [if_neg h, if_pos (Or.inl (by omega))]
theorem e_rowOf {c k : Nat} {T : Tn} {μ : Mm} (hc : TwS c (mm_K μ) (mm_P μ)) (ok : OkT T) (hp : TuP c T μ) (hk : k < (EN T).length) : f_X9_rowOf (c + 14) (nI k) μ = some (nI (cr T ((EN T)[k]))) := by
  unfold f_X9_rowOf
  rw [if_pos (by simp only [tc_tk hc])]
  have hs : suba T 0 = true := suba_t.mpr (fun i _ h => by rw [Nat.zero_testBit] at h; cases h)
  obtain ⟨r', h1, h2⟩ := rowOf_run hc ok hp (drf T 0 (T 0 0)) 0 0 (alb T 0 (T 0 0)) k rfl (Nat.zero_le _) (by decide) (by decide) hs (en_row0 T) (by have h : (EN T).length = cn (okc T) (drf T 0 (T 0 0)) 0 := en_len _ _ _ _; omega)
  rw [cw_start T ok] at h2
  have e1 : nI (2 ^ 32 - 1) = (-1 : Int32) := by decide
  rw [e1] at h2
  rw [show ((-1 : Int32), (0 : Int32), nI k, (0 : Int32)) = (-1, nI 0, nI k, nI 0) from rfl, h2, ob]
  have h3 : (EN T)[k]? = some r' := h1
  rw [List.getElem?_eq_getElem hk] at h3
  rw [Option.some.inj h3]
  rfl
/-- the number of a row told by digits -/
def nmb (ok : Nat → Nat → Bool) (d : Nat → Nat) : List Nat → Nat → Option Nat
  | [], _ => some 0
  | p :: ds, u => if d p < 8 ∧ (ok p (d p) && !u.testBit (d p)) = true then (nmb ok d ds (u ||| 2 ^ d p)).map (fun k => sg (fun q => if ok p q && !u.testBit q then cn ok ds (u ||| 2 ^ q) else 0) (d p) + k) else none
theorem nmb_lt {ok : Nat → Nat → Bool} {d : Nat → Nat} : ∀ (ds : List Nat) (u k : Nat), nmb ok d ds u = some k → k < cn ok ds u := by
  intro ds
  induction ds with
  | nil => intro u k h; cases h; exact Nat.one_pos
  | cons p ds ih =>
    intro u k h
    unfold nmb at h
    by_cases e : d p < 8 ∧ (ok p (d p) && !u.testBit (d p)) = true
    · rw [if_pos e] at h
      cases h2 : nmb ok d ds (u ||| 2 ^ d p) with
      | none => rw [h2] at h; cases h
      | some j =>
        rw [h2] at h
        have h : sg (fun q => if ok p q && !u.testBit q then cn ok ds (u ||| 2 ^ q) else 0) (d p) + j = k := Option.some.inj h
        have h3 := ih _ _ h2
        have h4 := sg_mono (fun q => if ok p q && !u.testBit q then cn ok ds (u ||| 2 ^ q) else 0) (by omega : d p + 1 ≤ 8)
        have h5 : sg (fun q => if ok p q && !u.testBit q then cn ok ds (u ||| 2 ^ q) else 0) (d p + 1) = sg (fun q => if ok p q && !u.testBit q then cn ok ds (u ||| 2 ^ q) else 0) (d p) + (if ok p (d p) && !u.testBit (d p) then cn ok ds (u ||| 2 ^ d p) else 0) := rfl
        rw [if_pos e.2] at h5
        show k < sg (fun q => if ok p q && !u.testBit q then cn ok ds (u ||| 2 ^ q) else 0) 8
        omega
    · rw [if_neg e] at h; cases h
theorem numberOf_run {c w : Nat} {T : Tn} {μ : Mm} (hc : TwS c (mm_K μ) (mm_P μ)) (ok : OkT T) (hp : TuP c T μ) (hw : w < 2 ^ 32) (h8 : ∀ p ∈ drf T 0 (T 0 0), nb w p < 8 ∨ nb w p = 15) : ∀ (ds : List Nat) (i u b : Nat), (drf T 0 (T 0 0)).drop i = ds → i ≤ (drf T 0 (T 0 0)).length → u < 256 → pc u = i → suba T u = true → whl (f_X9_numberOf_L7 (c + 14) (nI w) μ) (nI b, nI u, nI i) = some (match nmb (okc T) (nb w) ds u with | none => .inl () | some k => .inr (nI (b + k))) := by
  have hn := ok.1.1
  have hl := drf_len T (T 0 0) 0
  intro ds
  induction ds with
  | nil =>
    intro i u b hd hi hu hpc hs
    have hlen : (drf T 0 (T 0 0)).length ≤ i := by
      have := congrArg List.length hd
      rw [List.length_drop] at this
      simp at this
      omega
    refine whl_r ?_
    simp only [f_X9_numberOf_L7]
    rw [tc_tf hc, ob, hp.1, if_pos (nI_le hlen (by omega))]
    rfl
  | cons p ds ih =>
    intro i u b hd hi hu hpc hs
    have hil : i < (drf T 0 (T 0 0)).length := by
      have := congrArg List.length hd
      rw [List.length_drop] at this
      simp at this
      omega
    have hcons := List.drop_eq_getElem_cons hil
    rw [hd] at hcons
    have hpe : (drf T 0 (T 0 0))[i] = p := (List.cons.inj hcons).1.symm
    have hdt : (drf T 0 (T 0 0)).drop (i + 1) = ds := (List.cons.inj hcons).2.symm
    have hm : p ∈ drf T 0 (T 0 0) := hpe ▸ List.getElem_mem hil
    have hpm := drf_mem.mp hm
    have hwd := h8 p hm
    have hst : f_X9_numberOf_L7 (c + 14) (nI w) μ (nI b, nI u, nI i) = if nb w p < 8 ∧ (okc T p (nb w p) && !u.testBit (nb w p)) = true then some (.inl (nI (b + sg (fun q => if okc T p q && !u.testBit q then cn (okc T) ds (u ||| 2 ^ q) else 0) (nb w p)), nI (u ||| 2 ^ nb w p), nI (i + 1))) else some (.inr (.inl ())) := by
      simp only [f_X9_numberOf_L7]
      rw [tc_tf hc, ob, hp.1, if_neg (by rw [nI_le_i (by omega) (by omega)]; omega), tc_tp1 hc, ob, tc_tp0 hc, ob, tc_a15 hc (by omega), ob, hp.2.1 i hil, hpe, tc_a16 hc (by omega), ob, hp.2.2.1 p hm, ob, free_b, ob, tc_a15 hc (by omega), ob, hp.2.1 i hil, hpe, e_dreamOf hw (by omega), ob]
      simp only [dI_neg hwd]
      by_cases e15 : nb w p = 15
      · rw [if_pos e15, if_neg (by omega)]
      · have hq : nb w p < 8 := by omega
        have ed : dI (nb w p) = nI (nb w p) := if_neg e15
        rw [if_neg e15, ed, bmb hq (by decide)]
        simp only [nI_b0]
        by_cases e2 : (okc T p (nb w p) && !u.testBit (nb w p)) = true
        · rw [if_neg (by rw [e2]; decide), if_pos ⟨hq, e2⟩]
          have hrun : whl (f_X9_numberOf_L68 (c + 14) (nI w) (nI u) (nI i) (nI (bm (fun q => okc T p q && !u.testBit q) 8)) (nI (nb w p)) μ) (nI b, (0 : Int32)) = some (nI (b + sg (fun q => if okc T p q && !u.testBit q then cn (okc T) ds (u ||| 2 ^ q) else 0) (nb w p))) := by
            refine whl_c (nb w p) (fun x => (nI (b + sg (fun q => if okc T p q && !u.testBit q then cn (okc T) ds (u ||| 2 ^ q) else 0) x), nI x)) rfl (fun x hx => ?_) ?_
            · have hx8 : x < 8 := by omega
              have hsx : sg (fun q => if okc T p q && !u.testBit q then cn (okc T) ds (u ||| 2 ^ q) else 0) (x + 1) = sg (fun q => if okc T p q && !u.testBit q then cn (okc T) ds (u ||| 2 ^ q) else 0) x + (if okc T p x && !u.testBit x then cn (okc T) ds (u ||| 2 ^ x) else 0) := rfl
              simp only [hsx]
              generalize sg (fun q => if okc T p q && !u.testBit q then cn (okc T) ds (u ||| 2 ^ q) else 0) x = sx
              simp only [f_X9_numberOf_L68, f_X9_numberOf_J106, bmb hx8 (by decide : 8 ≤ 31), nI_b0, nI_1, ob, tc_tp2 hc]
              rw [if_neg (by rw [nI_le_i (by omega) (by omega)]; omega), if_neg (by rw [show (8 : Int32) = nI 8 from rfl, nI_le_i (by omega) (by omega)]; omega)]
              by_cases e3 : (okc T p x && !u.testBit x) = true
              · have hwx := wy_or ok (by omega) hu hx8 hs hpc e3
                rw [hdt] at hwx
                rw [if_pos e3, if_neg (by rw [e3]; decide), b_one (by omega), nI_or, tc_a17 hc (or_lt8 hu hx8), ob, hp.2.2.2 _ (or_lt8 hu hx8), hwx.1, nI_add, Nat.add_assoc]
              · rw [if_neg e3, if_pos (by simpa using e3)]; rfl
            · simp only [f_X9_numberOf_L68]
              rw [if_pos (nI_le (Nat.le_refl _) (by omega))]
          rw [hrun, ob]
          unfold f_X9_numberOf_J112
          rw [ob, ob, b_one (by omega), nI_or, nI_1]
        · rw [if_pos (by simpa using e2), if_neg (fun h => e2 h.2)]
    have hun : nmb (okc T) (nb w) (p :: ds) u = if nb w p < 8 ∧ (okc T p (nb w p) && !u.testBit (nb w p)) = true then (nmb (okc T) (nb w) ds (u ||| 2 ^ nb w p)).map (fun k => sg (fun q => if okc T p q && !u.testBit q then cn (okc T) ds (u ||| 2 ^ q) else 0) (nb w p) + k) else none := rfl
    by_cases e : nb w p < 8 ∧ (okc T p (nb w p) && !u.testBit (nb w p)) = true
    · rw [if_pos e] at hst
      have hwy := wy_or ok (by omega) hu e.1 hs hpc e.2
      rw [whl_l hst, ih (i + 1) _ _ hdt (by omega) (or_lt8 hu e.1) hwy.2.1 hwy.2.2, hun, if_pos e]
      cases nmb (okc T) (nb w) ds (u ||| 2 ^ nb w p) with
      | none => rfl
      | some k => show some (Sum.inr (nI _)) = some (Sum.inr (nI _)); rw [Nat.add_assoc]
    · rw [if_neg e] at hst
      rw [whl_r hst, hun, if_neg e]
theorem e_numberOf {c w : Nat} {T : Tn} {μ : Mm} (hc : TwS c (mm_K μ) (mm_P μ)) (ok : OkT T) (hp : TuP c T μ) (hw : w < 2 ^ 32) (h8 : ∀ p ∈ drf T 0 (T 0 0), nb w p < 8 ∨ nb w p = 15) : f_X9_numberOf (c + 14) (nI w) μ = some (oI (nmb (okc T) (nb w) (drf T 0 (T 0 0)) 0)) := by
  unfold f_X9_numberOf
  have hs : suba T 0 = true := suba_t.mpr (fun i _ h => by rw [Nat.zero_testBit] at h; cases h)
  have h := numberOf_run hc ok hp hw h8 (drf T 0 (T 0 0)) 0 0 0 rfl (Nat.zero_le _) (by decide) (by decide) hs
  rw [if_pos (by simp only [tc_tk hc]), show ((0 : Int32), (0 : Int32), (0 : Int32)) = (nI 0, nI 0, nI 0) from rfl, h, ob]
  cases nmb (okc T) (nb w) (drf T 0 (T 0 0)) 0 with
  | none => rfl
  | some k => show some (nI (0 + k)) = some (nI k); rw [Nat.zero_add]
