/-! ===== rows are found by their digits ===== -/
theorem nb_ext {w w' : Nat} (h : ∀ p, nb w p = nb w' p) : w = w' := by
  have h1 : w < 16 ^ (w + w') := Nat.lt_of_le_of_lt (Nat.le_add_right _ _) (Nat.lt_pow_self (by decide))
  have h2 : w' < 16 ^ (w + w') := Nat.lt_of_le_of_lt (Nat.le_add_left _ _) (Nat.lt_pow_self (by decide))
  exact nb_inj h1 h2 (fun p _ => h p)
theorem fi_cat {α : Type} {P : α → Bool} {g : Nat → List α} {q : Nat} : ∀ {m : Nat}, q < m → (∀ q', q' < m → q' ≠ q → ∀ x ∈ g q', P x = false) → (cat g m).findIdx? P = ((g q).findIdx? P).map (fun i => sg (fun q => (g q).length) q + i) := by
  intro m
  induction m with
  | zero => intro h; omega
  | succ m ih =>
    intro hq hz
    show (cat g m ++ g m).findIdx? P = _
    rw [List.findIdx?_append]
    by_cases e : q = m
    · subst e
      have : (cat g q).findIdx? P = none := List.findIdx?_eq_none_iff.mpr (fun x hx => by
        obtain ⟨q', h1, h2⟩ := cat_mem.mp hx
        exact hz q' (by omega) (by omega) x h2)
      rw [this, cat_len]
      cases (g q).findIdx? P with
      | none => rfl
      | some i => show some (i + _) = some (_ + i); rw [Nat.add_comm]
    · have h1 := ih (by omega) (fun q' h1 h2 => hz q' (by omega) h2)
      have h2 : (g m).findIdx? P = none := List.findIdx?_eq_none_iff.mpr (fun x hx => hz m (by omega) (fun h => e h.symm) x hx)
      rw [h1, h2]
      cases (g q).findIdx? P with
      | none => rfl
      | some i => rfl
theorem find_nmb {ok : Nat → Nat → Bool} {t : Nat} : ∀ (ds : List Nat) (u row : Nat), ds.Nodup → (∀ p ∈ ds, nb row p = 0) → (∀ p, p ∉ ds → nb t p = nb row p) → (en ok ds u row).findIdx? (fun r => r == t) = nmb ok (nb t) ds u := by
  intro ds
  induction ds with
  | nil =>
    intro u row _ _ h
    have e : row = t := nb_ext (fun p => (h p (by simp)).symm)
    subst e
    show List.findIdx? (fun r => r == row) [row] = some 0
    simp
  | cons p ds ih =>
    intro u row hd h0 hx
    have hn := List.nodup_cons.mp hd
    have hp0 := h0 p List.mem_cons_self
    have hrow : ∀ q, q < 16 → ∀ p' ∈ ds, nb (row + q * 16 ^ p) p' = 0 := fun q hq p' hp' => by
      rw [nb_add hp0 hq, if_neg (show ¬ p' = p from fun e => hn.1 (e ▸ hp'))]
      exact h0 p' (List.mem_cons_of_mem _ hp')
    have hblk : ∀ q, q < 8 → q ≠ nb t p → ∀ x ∈ (if ok p q && !u.testBit q then en ok ds (u ||| 2 ^ q) (row + q * 16 ^ p) else []), (x == t) = false := by
      intro q hq hne x hx
      by_cases e : (ok p q && !u.testBit q) = true
      · rw [if_pos e] at hx
        have h1 := (en_mem ds _ _ x hn.2 (hrow q (by omega)) hx).1 p hn.1
        rw [nb_add hp0 (by omega), if_pos rfl] at h1
        have : x ≠ t := fun e => hne (by rw [← h1, e])
        simpa using this
      · rw [if_neg e] at hx; cases hx
    show (cat _ 8).findIdx? _ = _
    unfold nmb
    by_cases hq : nb t p < 8
    · rw [fi_cat hq hblk]
      by_cases e : (ok p (nb t p) && !u.testBit (nb t p)) = true
      · rw [if_pos e, if_pos ⟨hq, e⟩, ih _ _ hn.2 (hrow _ (by omega)) (fun p' hp' => by
          rw [nb_add hp0 (by omega)]
          by_cases e2 : p' = p
          · rw [if_pos e2, e2]
          · rw [if_neg e2]
            exact hx p' (fun h => (List.mem_cons.mp h).elim e2 hp'))]
        congr 1
        funext i
        congr 1
        apply sg_x
        intro x hx
        split
        · exact en_len _ _ _ _
        · rfl
      · rw [if_neg e, if_neg (fun h => e h.2)]; rfl
    · rw [if_neg (fun h => hq h.1)]
      refine List.findIdx?_eq_none_iff.mpr (fun x hx => ?_)
      obtain ⟨q, h1, h2⟩ := cat_mem.mp hx
      exact hblk q h1 (by omega) x h2
/-- a row of digits among the turnings -/
theorem EN_find {T : Tn} (ok : OkT T) {t : Nat} (ht : ∀ p, T 0 0 ≤ p → nb t p = 0) : (EN T).findIdx? (fun r => r == t) = if (∀ p, p < T 0 0 → (T 0 7).testBit p = true → nb t p = 15) then nmb (okc T) (nb t) (drf T 0 (T 0 0)) 0 else none := by
  by_cases e : ∀ p, p < T 0 0 → (T 0 7).testBit p = true → nb t p = 15
  · rw [if_pos e]
    apply find_nmb _ _ _ (drf_nodup T _ _) (en_row0 T)
    intro p hp
    rw [nb_alb]
    by_cases h : p < T 0 0
    · have ha : (T 0 7).testBit p = true := by
        cases hx : (T 0 7).testBit p with
        | true => rfl
        | false => exact absurd (drf_mem.mpr ⟨Nat.zero_le _, by omega, hx⟩) hp
      rw [if_pos ⟨Nat.zero_le _, by omega, ha⟩, e p h ha]
    · rw [if_neg (by omega), ht p (by omega)]
  · rw [if_neg e]
    refine List.findIdx?_eq_none_iff.mpr (fun x hx => ?_)
    have h1 := (EN_dig ok hx).1
    have : x ≠ t := fun h => e (fun p hp ha => by rw [← h]; exact h1 p hp ha)
    simpa using this
theorem ff_fi {α : Type} {P : α → Bool} {l : List α} {b : Nat → Bool} (h : ∀ (k : Nat) (hk : k < l.length), b k = P l[k]) : ff b l.length = l.findIdx? P := by
  cases e : ff b l.length with
  | none =>
    rw [ff_none] at e
    symm
    refine List.findIdx?_eq_none_iff.mpr (fun x hx => ?_)
    obtain ⟨k, hk, rfl⟩ := List.getElem_of_mem hx
    rw [← h k hk]
    exact e k hk
  | some j =>
    obtain ⟨h1, h2, h3⟩ := ff_some.mp e
    symm
    refine List.findIdx?_eq_some_iff_getElem.mpr ⟨h1, by rw [← h j h1]; exact h2, fun i hi => ?_⟩
    rw [← h i (by omega), h3 i hi]
    decide
/-! ===== all rows of the class ===== -/
theorem tuP_x {c : Nat} {T : Tn} {μ μ' : Mm} (hx : ∀ q, c + 14 ≤ q → q < c + 18 → mm_I μ' q = mm_I μ q) (h : TuP c T μ) : TuP c T μ' := by
  unfold TuP at h ⊢
  rw [hx (c + 14) (by omega) (by omega), hx (c + 15) (by omega) (by omega), hx (c + 16) (by omega) (by omega), hx (c + 17) (by omega) (by omega)]
  exact h
theorem fill_run {c a R : Nat} {T : Tn} {μ : Mm} (hc : TwS c (mm_K μ) (mm_P μ)) (ok : OkT T) (hp : TuP c T μ) (ha : a < c + 14 ∨ c + 17 < a) (hR : mm_K μ a = (20, R)) (hR2 : R < 2 ^ 31) : ∀ (ds : List Nat) (fuel i u r n : Nat) (f : Nat → Int32), ds.length < fuel → (drf T 0 (T 0 0)).drop i = ds → i ≤ (drf T 0 (T 0 0)).length → u < 256 → pc u = i → suba T u = true → (∀ p ∈ ds, nb r p = 0) → n + cn (okc T) ds u ≤ R →
    f_X9_fillFrom fuel (c + 14) (nI i) (nI u) (nI (cw (T 0 0) ds r)) a (nI n) (ms_A μ a f) = some (nI (n + cn (okc T) ds u), ms_A μ a (pl f n ((en (okc T) ds u r).map (fun x => nI (cr T x))))) := by
  have hn := ok.1.1
  have hl := drf_len T (T 0 0) 0
  have hc0 : ∀ f, TwS c (mm_K (ms_A μ a f)) (mm_P (ms_A μ a f)) := fun _ => hc
  have hp0 : ∀ f, TuP c T (ms_A μ a f) := fun f => tuP_x (fun q h1 h2 => by rw [rA, if_neg (by omega)]) hp
  intro ds
  induction ds with
  | nil =>
    intro fuel i u r n f hf hd hi hu hpc hs h0 hk
    have hlen : (drf T 0 (T 0 0)).length ≤ i := by
      have := congrArg List.length hd
      rw [List.length_drop] at this
      simp at this
      omega
    have hk : n + 1 ≤ R := hk
    cases fuel with
    | zero => exact absurd hf (Nat.not_lt_zero _)
    | succ fuel =>
      show f_X9_fillFrom_B _ _ _ _ _ _ _ _ = _
      unfold f_X9_fillFrom_B f_X9_fillFrom_J14
      rw [if_pos (by simp only [tc_tk (hc0 _)]), tc_tf (hc0 _), ob, (hp0 f).1, if_pos (nI_le hlen (by omega)), e_len (μ := ms_A μ a f) hR ⟨by decide, by decide⟩, ob, if_neg (by rw [nI_le_i (by omega) (by omega)]; omega), e_paI (μ := ms_A μ a f) hR (by omega) hR2, ob, sA_I, nI_1]
      show some (nI (n + 1), ms_A μ a (u1 f n (nI (cr T r)))) = some (nI (n + 1), ms_A μ a (pl f n [nI (cr T r)]))
      rw [pl_one]
  | cons p ds ih =>
    intro fuel i u r n f hf hd hi hu hpc hs h0 hk
    have hil : i < (drf T 0 (T 0 0)).length := by
      have := congrArg List.length hd
      rw [List.length_drop] at this
      simp at this
      omega
    have hcons := List.drop_eq_getElem_cons hil
    rw [hd] at hcons
    have hpe : (drf T 0 (T 0 0))[i] = p := (List.cons.inj hcons).1.symm
    have hdt : (drf T 0 (T 0 0)).drop (i + 1) = ds := (List.cons.inj hcons).2.symm
    have hm : p ∈ drf T 0 (T 0 0) := hpe ▸ List.getElem_mem hil
    have hpm := drf_mem.mp hm
    have hnd : (p :: ds).Nodup := hd ▸ (drf_nodup T _ _).sublist (List.drop_sublist _ _)
    have hnd2 := List.nodup_cons.mp hnd
    have hpz := h0 p List.mem_cons_self
    cases fuel with
    | zero => exact absurd hf (Nat.not_lt_zero _)
    | succ fuel =>
      have hf2 : ds.length < fuel := by simp at hf; omega
      show f_X9_fillFrom_B _ _ _ _ _ _ _ _ = _
      unfold f_X9_fillFrom_B
      rw [if_pos (by simp only [tc_tk (hc0 _)]), tc_tf (hc0 _), ob, (hp0 f).1, if_neg (by rw [nI_le_i (by omega) (by omega)]; omega), if_pos (by rw [show (8 : Int32) = nI 8 from rfl, nI_lt_i (by omega) (by omega)]; omega), tc_tp0 (hc0 _), ob, tc_a15 (hc0 _) (by omega), ob, (hp0 f).2.1 i hil, hpe, tc_tp1 (hc0 _), ob, tc_a16 (hc0 _) (by omega), ob, (hp0 f).2.2.1 p hm, ob, free_b]
      have hlen : ∀ x, (if okc T p x && !u.testBit x then en (okc T) ds (u ||| 2 ^ x) (r + x * 16 ^ p) else []).length = if okc T p x && !u.testBit x then cn (okc T) ds (u ||| 2 ^ x) else 0 := fun x => by
        split
        · exact en_len _ _ _ _
        · rfl
      have hcl : ∀ m, (cat (fun x => if okc T p x && !u.testBit x then en (okc T) ds (u ||| 2 ^ x) (r + x * 16 ^ p) else []) m).length = sg (fun q => if okc T p q && !u.testBit q then cn (okc T) ds (u ||| 2 ^ q) else 0) m := fun m => by
        rw [cat_len]; exact sg_x (fun q _ => hlen q)
      refine (whl_b 8 (fun x => (nI (n + sg (fun q => if okc T p q && !u.testBit q then cn (okc T) ds (u ||| 2 ^ q) else 0) x), nI x, ms_A μ a (pl f n ((cat (fun x => if okc T p x && !u.testBit x then en (okc T) ds (u ||| 2 ^ x) (r + x * 16 ^ p) else []) x).map (fun x => nI (cr T x)))))) (b := (nI (n + sg (fun q => if okc T p q && !u.testBit q then cn (okc T) ds (u ||| 2 ^ q) else 0) 8), ms_A μ a (pl f n ((cat (fun x => if okc T p x && !u.testBit x then en (okc T) ds (u ||| 2 ^ x) (r + x * 16 ^ p) else []) 8).map (fun x => nI (cr T x)))))) ?_ (fun x hx => ?_) ?_).trans ?_
      · show _ = (_, _, ms_A μ a (pl f n []))
        rw [pl_nil]; rfl
      · have hcx : cat (fun x => if okc T p x && !u.testBit x then en (okc T) ds (u ||| 2 ^ x) (r + x * 16 ^ p) else []) (x + 1) = cat (fun x => if okc T p x && !u.testBit x then en (okc T) ds (u ||| 2 ^ x) (r + x * 16 ^ p) else []) x ++ (if okc T p x && !u.testBit x then en (okc T) ds (u ||| 2 ^ x) (r + x * 16 ^ p) else []) := rfl
        have hsx : sg (fun q => if okc T p q && !u.testBit q then cn (okc T) ds (u ||| 2 ^ q) else 0) (x + 1) = sg (fun q => if okc T p q && !u.testBit q then cn (okc T) ds (u ||| 2 ^ q) else 0) x + (if okc T p x && !u.testBit x then cn (okc T) ds (u ||| 2 ^ x) else 0) := rfl
        have hsm := sg_mono (fun q => if okc T p q && !u.testBit q then cn (okc T) ds (u ||| 2 ^ q) else 0) (by omega : x + 1 ≤ 8)
        have hk : n + sg (fun q => if okc T p q && !u.testBit q then cn (okc T) ds (u ||| 2 ^ q) else 0) 8 ≤ R := hk
        have hclx := hcl x
        simp only [hcx, hsx]
        rw [hsx] at hsm
        generalize cat (fun x => if okc T p x && !u.testBit x then en (okc T) ds (u ||| 2 ^ x) (r + x * 16 ^ p) else []) x = cx at hclx
        generalize sg (fun q => if okc T p q && !u.testBit q then cn (okc T) ds (u ||| 2 ^ q) else 0) x = sx at hclx hsm
        generalize sg (fun q => if okc T p q && !u.testBit q then cn (okc T) ds (u ||| 2 ^ q) else 0) 8 = s8 at hk hsm
        simp only [f_X9_fillFrom_L61, f_X9_fillFrom_J119, bmb hx (by decide : 8 ≤ 31), nI_b0, nI_1, ob, b_one (by omega : x < 32), nI_or]
        rw [if_neg (by rw [show (8 : Int32) = nI 8 from rfl, nI_le_i (by omega) (by omega)]; omega)]
        by_cases e2 : (okc T p x && !u.testBit x) = true
        · have hwx := wy_or ok (by omega) hu hx hs hpc e2
          rw [hdt] at hwx
          rw [if_pos e2] at hsm
          rw [if_neg (by rw [e2]; decide), if_pos e2, if_pos e2, tc_tp2 (hc0 _), ob, tc_a17 (hc0 _) (or_lt8 hu hx), ob, (hp0 _).2.2.2 _ (or_lt8 hu hx), hwx.1]
          by_cases ez : cn (okc T) ds (u ||| 2 ^ x) = 0
          · have en0 : en (okc T) ds (u ||| 2 ^ x) (r + x * 16 ^ p) = [] := List.eq_nil_of_length_eq_zero (by rw [en_len]; exact ez)
            rw [ez, if_pos (by decide), en0, List.append_nil]; rfl
          · rw [if_neg (nI_nle (by omega) (by rw [← hwx.1]; exact wy_b ok _)), e_with (by omega) hn (by omega) hnd2.1 hpz, ob, ih fuel (i + 1) (u ||| 2 ^ x) (r + x * 16 ^ p) (n + sx) _ hf2 hdt (by omega) (or_lt8 hu hx) hwx.2.1 hwx.2.2 (fun p' hp' => by
              rw [nb_add hpz (by omega), if_neg (show ¬ p' = p from fun e => hnd2.1 (e ▸ hp'))]
              exact h0 p' (List.mem_cons_of_mem _ hp')) (by omega), ob, Nat.add_assoc]
            congr 5
            have := pl_app f n (cx.map (fun x => nI (cr T x))) ((en (okc T) ds (u ||| 2 ^ x) (r + x * 16 ^ p)).map (fun x => nI (cr T x)))
            rw [List.length_map, hclx] at this
            rw [this, List.map_append]
        · rw [if_pos (by simpa using e2), if_neg e2, if_neg e2, List.append_nil]; rfl
      · simp only [f_X9_fillFrom_L61]
        rw [if_pos (by decide)]
      · rfl
theorem e_fillRows {c a R : Nat} {T : Tn} {μ : Mm} (hc : TwS c (mm_K μ) (mm_P μ)) (ok : OkT T) (hp : TuP c T μ) (ha : a < c + 14 ∨ c + 17 < a) (hR : mm_K μ a = (20, R)) (hR2 : R < 2 ^ 31) (hk : (EN T).length ≤ R) : f_X9_fillRows (c + 14) a μ = some (ms_A μ a (pl (mm_I μ a) 0 ((EN T).map (fun x => nI (cr T x))))) := by
  have hn := ok.1.1
  have hl := drf_len T (T 0 0) 0
  have hs : suba T 0 = true := suba_t.mpr (fun i _ h => by rw [Nat.zero_testBit] at h; cases h)
  have hlen : (EN T).length = cn (okc T) (drf T 0 (T 0 0)) 0 := en_len _ _ _ _
  have h := fill_run hc ok hp ha hR hR2 (drf T 0 (T 0 0)) 10 0 0 (alb T 0 (T 0 0)) 0 (mm_I μ a) (by omega) rfl (Nat.zero_le _) (by decide) (by decide) hs (en_row0 T) (by omega)
  rw [sA_id, cw_start T ok] at h
  have e1 : nI (2 ^ 32 - 1) = (-1 : Int32) := by decide
  rw [e1] at h
  unfold f_X9_fillRows
  rw [if_pos (by simp only [tc_tk hc])]
  have h0 : f_X9_fillFrom 10 (c + 14) (0 : Int32) (0 : Int32) (-1) a (0 : Int32) μ = _ := h
  rw [h0, ob]
  rfl
