/-! ===== the class's Turnings: prepare ===== -/
theorem m3_1 (μ : Mm) {p q r : Nat} (h : p ≠ q) (h2 : p ≠ r) (a b c : Nat → Int32) (k : Nat) (v : Int32) : ms_I (ms_A (ms_A (ms_A μ p a) q b) r c) p k v = ms_A (ms_A (ms_A μ p (u1 a k v)) q b) r c := by
  rw [sI_A, sA_3 μ h h2, rA, if_neg h2, rA, if_neg h, rA, if_pos rfl]
theorem m3_2 (μ : Mm) {p q r : Nat} (h : q ≠ r) (a b c : Nat → Int32) (k : Nat) (v : Int32) : ms_I (ms_A (ms_A (ms_A μ p a) q b) r c) q k v = ms_A (ms_A (ms_A μ p a) q (u1 b k v)) r c := by
  rw [sI_A, sA_2 _ h, rA, if_neg h, rA, if_pos rfl]
/-- a list laid from s on -/
def pl {α : Type} (old : Nat → α) (s : Nat) (l : List α) : Nat → α := fun j => if s ≤ j then (l[j - s]?).getD (old j) else old j
theorem pl_nil {α : Type} (old : Nat → α) (s : Nat) : pl old s [] = old := by
  funext j
  unfold pl
  split <;> rfl
theorem pl_app {α : Type} (old : Nat → α) (s : Nat) (l m : List α) : pl (pl old s l) (s + l.length) m = pl old s (l ++ m) := by
  funext j
  unfold pl
  by_cases h : s ≤ j
  · rw [if_pos h, if_pos h]
    by_cases h2 : s + l.length ≤ j
    · rw [if_pos h2, List.getElem?_append_right (by omega), List.getElem?_eq_none (by omega : l.length ≤ j - s), show j - s - l.length = j - (s + l.length) by omega]
      rfl
    · rw [if_neg h2, List.getElem?_append_left (by omega)]
  · rw [if_neg h, if_neg h, if_neg (by omega)]
theorem pl_one {α : Type} (old : Nat → α) (s : Nat) (x : α) : pl old s [x] = u1 old s x := by
  funext j
  unfold pl u1
  by_cases h : j = s
  · subst h; rw [if_pos (Nat.le_refl _), if_pos rfl, Nat.sub_self]; rfl
  · rw [if_neg h]
    by_cases h2 : s ≤ j
    · rw [if_pos h2, List.getElem?_eq_none (by simp; omega)]; rfl
    · rw [if_neg h2]
theorem pl_get {α : Type} {old : Nat → α} {s i : Nat} {l : List α} (h : i < l.length) : pl old s l (s + i) = l[i] := by
  unfold pl
  rw [if_pos (by omega), show s + i - s = i by omega, List.getElem?_eq_getElem h]
  rfl
theorem pl_snoc {α : Type} (old : Nat → α) (s : Nat) (l : List α) (x : α) : u1 (pl old s l) (s + l.length) x = pl old s (l ++ [x]) := by
  rw [← pl_one, pl_app]
theorem drf_snoc (T : Tn) : ∀ k p, drf T p (k + 1) = drf T p k ++ (if (T 0 7).testBit (p + k) then [] else [p + k]) := by
  intro k
  induction k with
  | zero => intro p; unfold drf; rw [show p + 0 = p from rfl]; split <;> rfl
  | succ k ih =>
    intro p
    have h : drf T p (k + 1 + 1) = if (T 0 7).testBit p then drf T (p + 1) (k + 1) else p :: drf T (p + 1) (k + 1) := rfl
    have h' : drf T p (k + 1) = if (T 0 7).testBit p then drf T (p + 1) k else p :: drf T (p + 1) k := rfl
    rw [h, h', ih (p + 1), show p + 1 + k = p + (k + 1) by omega]
    split <;> rfl
theorem e_isAlone {c p : Nat} {T : Tn} {μ : Mm} (hc : TwS c (mm_K μ) (mm_P μ)) (ht : CTn c T μ) (ok : OkT T) (hp : p < 32) : f_X7_isAlone c (nI p) μ = some (nI ((T 0 7).testBit p).toNat) := by
  have h7 : T 0 7 < 2 ^ 31 := Nat.lt_of_lt_of_le ok.1.2.2.2.2.2.2.2.2.1 (Nat.pow_le_pow_right (by decide) (by have := ok.1.1; omega))
  unfold f_X7_isAlone
  simp only [tc_k hc, if_true, ct_al hc ht, ob, b_bit hp h7, nI_b0]
  cases (T 0 7).testBit p <;> rfl
theorem e_toldDreamOf {c p : Nat} {T : Tn} {μ : Mm} (hc : TwS c (mm_K μ) (mm_P μ)) (ht : CTn c T μ) (ok : OkT T) (hp : p < T 0 0) : f_X7_toldDreamOf c (nI p) μ = some (if T 1 p = 0 then -1 else nI (T 1 p - 1)) := by
  have hn := ok.1.1
  unfold f_X7_toldDreamOf
  rw [if_pos (by rw [hc.1]), e_isPerson' hc ht ok, ob, bz_t (inR_nI hp (by omega)), if_neg (by decide), tc_p1 hc, ob, tc_a2 hc (by omega), ob, ht.2.2.2.2.2.2.2.1 p (by omega)]
theorem neg1_ne {q : Nat} (h : q < 2 ^ 31) : ¬ (nI q = (-1 : Int32)) := fun e => by
  have h1 := nI_toInt h
  rw [e] at h1
  have : (-1 : Int32).toInt = -1 := by decide
  omega
theorem b_all {T : Tn} (ok : OkT T) : ((1 : Int32) <<< (nI (T 0 0) &&& 31) - 1) &&& (nI (T 0 7) ^^^ (-1 : Int32)) = nI (bm (fun q => decide (q < T 0 0) && !(T 0 7).testBit q) 8) := by
  have hn := ok.1.1
  have h1 : nI (2 ^ T 0 0) - 1 = nI (2 ^ T 0 0 - 1) := pk_sub (b := 1) (Nat.two_pow_pos _)
  rw [b_one (by omega), h1, bm_all, b_andn' (n := 8) (by decide) (Nat.lt_of_lt_of_le (bm_lt _ _) (Nat.pow_le_pow_right (by decide) hn))]
  congr 1
  apply bm_x
  intro q hq
  rw [bm_t]
  by_cases h : q < T 0 0 <;> simp [h]
theorem e_prepare {c : Nat} {T : Tn} {μ : Mm} (hc : TwS c (mm_K μ) (mm_P μ)) (ht : CTn c T μ) (ok : OkT T) : ∃ μ', f_X9_prepare (c + 14) c μ = some μ' ∧ TuP c T μ' ∧ (∀ q, q < c + 14 ∨ c + 17 < q → mm_I μ' q = mm_I μ q) := by
  have hn := ok.1.1
  have e1 : (1 : Int32) = nI 1 := rfl
  unfold f_X9_prepare
  rw [if_pos (by simp only [tc_tk hc]), tc_tw hc, ob]
  have hx0 : ∀ a b d, CTn c T (ms_A (ms_A (ms_A μ (c + 14) a) (c + 15) b) (c + 16) d) := fun a b d => ctn_x (fun q h1 h2 => by rw [rA, if_neg (by omega), rA, if_neg (by omega), rA, if_neg (by omega)]) ht
  have hc0 : ∀ a b d, TwS c (mm_K (ms_A (ms_A (ms_A μ (c + 14) a) (c + 15) b) (c + 16) d)) (mm_P (ms_A (ms_A (ms_A μ (c + 14) a) (c + 15) b) (c + 16) d)) := fun _ _ _ => hc
  have es : ms_I μ (c + 14) 3 0 = ms_A (ms_A (ms_A μ (c + 14) (u1 (mm_I μ (c + 14)) 3 (nI (drf T 0 0).length))) (c + 15) (pl (mm_I μ (c + 15)) 0 ((drf T 0 0).map nI))) (c + 16) (fun p => if p < 0 ∧ (T 0 7).testBit p = false then nI (bm (okc T p) 8) else mm_I μ (c + 16) p) := by
    have r1 : pl (mm_I μ (c + 15)) 0 ((drf T 0 0).map nI) = mm_I (ms_A μ (c + 14) (u1 (mm_I μ (c + 14)) 3 (nI (drf T 0 0).length))) (c + 15) := by rw [rA, if_neg (by omega)]; exact pl_nil _ _
    have r2 : (fun p => if p < 0 ∧ (T 0 7).testBit p = false then nI (bm (okc T p) 8) else mm_I μ (c + 16) p) = mm_I (ms_A μ (c + 14) (u1 (mm_I μ (c + 14)) 3 (nI (drf T 0 0).length))) (c + 16) := by
      funext p
      rw [rA, if_neg (by omega), if_neg (by omega)]
    rw [r1, sA_id, r2, sA_id]
    rfl
  rw [es, ct_n (hc0 _ _ _) (hx0 _ _ _), ob, ct_al (hc0 _ _ _) (hx0 _ _ _), ob, ob, b_all ok]
  rw [whl_b (T 0 0) (fun i => (nI i, ms_A (ms_A (ms_A μ (c + 14) (u1 (mm_I μ (c + 14)) 3 (nI (drf T 0 i).length))) (c + 15) (pl (mm_I μ (c + 15)) 0 ((drf T 0 i).map nI))) (c + 16) (fun p => if p < i ∧ (T 0 7).testBit p = false then nI (bm (okc T p) 8) else mm_I μ (c + 16) p))) (b := ms_A (ms_A (ms_A μ (c + 14) (u1 (mm_I μ (c + 14)) 3 (nI (drf T 0 (T 0 0)).length))) (c + 15) (pl (mm_I μ (c + 15)) 0 ((drf T 0 (T 0 0)).map nI))) (c + 16) (fun p => if p < T 0 0 ∧ (T 0 7).testBit p = false then nI (bm (okc T p) 8) else mm_I μ (c + 16) p)) (s0 := ((0 : Int32), _)) rfl ?_ ?_]
  · generalize hν : ms_A (ms_A (ms_A μ (c + 14) (u1 (mm_I μ (c + 14)) 3 (nI (drf T 0 (T 0 0)).length))) (c + 15) (pl (mm_I μ (c + 15)) 0 ((drf T 0 (T 0 0)).map nI))) (c + 16) (fun p => if p < T 0 0 ∧ (T 0 7).testBit p = false then nI (bm (okc T p) 8) else mm_I μ (c + 16) p) = ν
    have g1 : mm_I ν (c + 14) 3 = nI (drf T 0 (T 0 0)).length := by rw [← hν, rA, if_neg (by omega), rA, if_neg (by omega), rA, if_pos rfl, u1_s]
    have g2 : ∀ (i : Nat) (h : i < (drf T 0 (T 0 0)).length), mm_I ν (c + 15) i = nI (drf T 0 (T 0 0))[i] := fun i h => by
      rw [← hν, rA, if_neg (by omega), rA, if_pos rfl]
      have := pl_get (old := mm_I μ (c + 15)) (s := 0) (l := (drf T 0 (T 0 0)).map nI) (i := i) (by rw [List.length_map]; exact h)
      rw [Nat.zero_add] at this
      rw [this, List.getElem_map]
    have g3 : ∀ p ∈ drf T 0 (T 0 0), mm_I ν (c + 16) p = nI (bm (okc T p) 8) := fun p hp => by
      have hp2 := drf_mem.mp hp
      rw [← hν, rA, if_pos rfl, if_pos ⟨by omega, hp2.2.2⟩]
    have gc : TwS c (mm_K ν) (mm_P ν) := by rw [← hν]; exact hc
    have gx : ∀ q, q < c + 14 ∨ c + 17 ≤ q → mm_I ν q = mm_I μ q := fun q hq => by rw [← hν, rA, if_neg (by omega), rA, if_neg (by omega), rA, if_neg (by omega)]
    clear hν es hx0 hc0
    unfold f_X9_prepare_J105
    rw [tc_tp2 gc, ob, tc_l17 gc, ob, ob, e1, pk_sub (by decide : 1 ≤ 256)]
    have hS : ∀ k, k ≤ 256 → ∀ f : Nat → Int32, TwS c (mm_K (ms_A ν (c + 17) f)) (mm_P (ms_A ν (c + 17) f)) := fun _ _ _ => gc
    refine ⟨ms_A ν (c + 17) (fun j => if 256 - 256 ≤ j ∧ j < 256 then nI (wy T j) else mm_I ν (c + 17) j), ?_, ?_, ?_⟩
    · refine whl_b 256 (fun i => (if i < 256 then nI (255 - i) else -1, ms_A ν (c + 17) (fun j => if 256 - i ≤ j ∧ j < 256 then nI (wy T j) else mm_I ν (c + 17) j))) ?_ (fun i hi => ?_) ?_
      · have : (fun j => if 256 - 0 ≤ j ∧ j < 256 then nI (wy T j) else mm_I ν (c + 17) j) = mm_I ν (c + 17) := by funext j; rw [if_neg (by omega)]
        rw [this, sA_id]; rfl
      · have hu : 255 - i < 256 := by omega
        have he : (if i + 1 < 256 then nI (255 - (i + 1)) else (-1 : Int32)) = nI (255 - i) + (-1) := by
          by_cases h : i + 1 < 256
          · rw [if_pos h, show 255 - i = (255 - (i + 1)) + 1 by omega, pk_m1]
          · rw [if_neg h, show 255 - i = 0 by omega]; rfl
        have hfe : ∀ v : Int32, v = nI (wy T (255 - i)) → ms_I (ms_A ν (c + 17) (fun j => if 256 - i ≤ j ∧ j < 256 then nI (wy T j) else mm_I ν (c + 17) j)) (c + 17) (255 - i) v = ms_A ν (c + 17) (fun j => if 256 - (i + 1) ≤ j ∧ j < 256 then nI (wy T j) else mm_I ν (c + 17) j) := by
          intro v hv
          rw [sA_I]
          congr 1
          funext j
          by_cases hj : j = 255 - i
          · subst hj; rw [u1_s, if_pos (by omega), hv]
          · rw [u1_n _ _ hj]
            by_cases h : 256 - i ≤ j ∧ j < 256
            · rw [if_pos h, if_pos (by omega)]
            · rw [if_neg h, if_neg (by omega)]
        simp only [if_pos hi, f_X9_prepare_L113, f_X9_prepare_J139]
        rw [if_neg (nI_pos (by omega)), tc_tp2 (hS 0 (by decide) _), ob, b_andn' (n := 8) (by decide) hu, he]
        have hz : (nI (bm (fun q => (255 - i).testBit q && !(bm (fun q => decide (q < T 0 0) && !(T 0 7).testBit q) 8).testBit q) 8) = 0) = (suba T (255 - i) = true) := by
          rw [nI_z (bm_31 _ (by decide)), bm_z]
          apply propext
          rw [suba_t]
          constructor
          · intro h q hq hu
            have := h q hq
            rw [hu, bm_t, decide_eq_true hq] at this
            simpa using this
          · intro h q hq
            cases hu : (255 - i).testBit q with
            | false => rfl
            | true => have := h q hq hu; rw [bm_t]; simp [this, hq]
        simp only [hz]
        by_cases hsu : suba T (255 - i) = true
        · rw [if_pos hsu, e_waysOn (T := T) (hS 0 (by decide) _) ok (by rw [rA, if_neg (by omega)]; exact g1) (fun i h => by rw [rA, if_neg (by omega)]; exact g2 i h) (fun p hp => by rw [rA, if_neg (by omega)]; exact g3 p hp) (fun v h1 h2 => by rw [rA, if_pos rfl, if_pos (by omega)]) hu hsu, ob, tc_b17 (hS 0 (by decide) _) _ hu, ob, ob, hfe _ rfl]
        · have hw : wy T (255 - i) = 0 := by unfold wy; rw [if_neg hsu]
          rw [if_neg hsu, tc_b17 (hS 0 (by decide) _) _ hu, ob, ob, hfe _ (by rw [hw]; rfl)]
      · simp only [f_X9_prepare_L113, if_neg (by decide : ¬ 256 < 256)]
        rw [if_pos (by decide)]
    · refine ⟨by rw [rA, if_neg (by omega)]; exact g1, fun i h => by rw [rA, if_neg (by omega)]; exact g2 i h, fun p hp => by rw [rA, if_neg (by omega)]; exact g3 p hp, fun u hu => by rw [rA, if_pos rfl, if_pos (by omega)]⟩
    · intro q hq
      rw [rA, if_neg (by omega)]
      exact gx q (by omega)
  · intro i hi
    simp only [f_X9_prepare_L23]
    have hlen := drf_len T i 0
    rw [ct_n (hc0 _ _ _) (hx0 _ _ _), ob, if_neg (by rw [nI_le_i (by omega) (by omega)]; omega), e_isAlone (hc0 _ _ _) (hx0 _ _ _) ok (by omega), ob]
    simp only [nI_b0]
    have hsn := drf_snoc T i 0
    rw [Nat.zero_add] at hsn
    by_cases ha : (T 0 7).testBit i = false
    · have hsn : drf T 0 (i + 1) = drf T 0 i ++ [i] := by rw [hsn, ha]; rfl
      rw [if_pos ha, tc_tp0 (hc0 _ _ _), ob, tc_tf (hc0 _ _ _), ob]
      have rs : ∀ b d, mm_I (ms_A (ms_A (ms_A μ (c + 14) (u1 (mm_I μ (c + 14)) 3 (nI (drf T 0 i).length))) (c + 15) b) (c + 16) d) (c + 14) 3 = nI (drf T 0 i).length := fun b d => by rw [rA, if_neg (by omega), rA, if_neg (by omega), rA, if_pos rfl, u1_s]
      rw [rs, tc_b15 (hc0 _ _ _) _ (by omega), ob, m3_2 _ (by omega), tc_tf (hc0 _ _ _), ob, rs, nI_1, tc_tw (hc0 _ _ _), ob, m3_1 _ (by omega) (by omega), u1_u1, e_toldDreamOf (hc0 _ _ _) (hx0 _ _ _) ok hi, ob, tc_tp1 (hc0 _ _ _), ob]
      have hps : u1 (pl (mm_I μ (c + 15)) 0 ((drf T 0 i).map nI)) (drf T 0 i).length (nI i) = pl (mm_I μ (c + 15)) 0 ((drf T 0 (i + 1)).map nI) := by
        have := pl_snoc (mm_I μ (c + 15)) 0 ((drf T 0 i).map nI) (nI i)
        rw [Nat.zero_add, List.length_map] at this
        rw [this, hsn, List.map_append]
        rfl
      have hls : (drf T 0 i).length + 1 = (drf T 0 (i + 1)).length := by rw [hsn, List.length_append]; rfl
      rw [hps, hls]
      have fin : ∀ v : Int32, v = nI (bm (okc T i) 8) → f_X9_prepare_J98 (c + 14) c (nI (bm (fun q => decide (q < T 0 0) && !(T 0 7).testBit q) 8)) (nI i) (c + 16) (nI i) v (ms_A (ms_A (ms_A μ (c + 14) (u1 (mm_I μ (c + 14)) 3 (nI (drf T 0 (i + 1)).length))) (c + 15) (pl (mm_I μ (c + 15)) 0 ((drf T 0 (i + 1)).map nI))) (c + 16) (fun p => if p < i ∧ (T 0 7).testBit p = false then nI (bm (okc T p) 8) else mm_I μ (c + 16) p)) = some (.inl (nI (i + 1), ms_A (ms_A (ms_A μ (c + 14) (u1 (mm_I μ (c + 14)) 3 (nI (drf T 0 (i + 1)).length))) (c + 15) (pl (mm_I μ (c + 15)) 0 ((drf T 0 (i + 1)).map nI))) (c + 16) (fun p => if p < i + 1 ∧ (T 0 7).testBit p = false then nI (bm (okc T p) 8) else mm_I μ (c + 16) p))) := by
        intro v hv
        unfold f_X9_prepare_J98 f_X9_prepare_J99
        rw [tc_b16 (hc0 _ _ _) _ (by omega), ob, ob, nI_1, sA_I]
        congr 4
        funext p
        by_cases e : p = i
        · subst e; rw [u1_s, if_pos ⟨by omega, ha⟩, hv]
        · rw [u1_n _ _ e]
          by_cases h : p < i ∧ (T 0 7).testBit p = false
          · rw [if_pos h, if_pos ⟨by omega, h.2⟩]
          · rw [if_neg h, if_neg (fun h2 => h ⟨by omega, h2.2⟩)]
      by_cases et : T 1 i = 0
      · rw [if_pos et, if_pos rfl, ct_dr (hc0 _ _ _) (hx0 _ _ _), ob]
        apply fin
        rw [b_andn' (by decide) (bm_lt _ 8), b_one (by omega), b_andn' (by decide) (bm_lt _ 8)]
        congr 1
        apply bm_x
        intro q hq
        unfold okc
        rw [if_pos et, bm_t, decide_eq_true hq, bm_t, decide_eq_true hq, Nat.testBit_two_pow]
        have : decide (i = q) = (q == i) := by
          by_cases h : i = q
          · subst h; simp
          · have h2 : ¬ q = i := fun e => h e.symm
            simp [h, h2]
        rw [this]
        simp
      · have h8 : T 1 i - 1 < 8 := by have := (ok.2.1 i (by omega)).1; omega
        rw [if_neg et, if_neg (neg1_ne (by omega)), b_one (by omega)]
        apply fin
        rw [bm_1 h8]
        congr 1
        apply bm_x
        intro q hq
        unfold okc
        rw [if_neg et]
    · have ha : (T 0 7).testBit i = true := by simpa using ha
      have hsn : drf T 0 (i + 1) = drf T 0 i := by rw [hsn, ha]; simp
      rw [if_neg (by rw [ha]; decide)]
      unfold f_X9_prepare_J99
      rw [ob, nI_1, hsn]
      congr 4
      funext p
      by_cases h : p < i ∧ (T 0 7).testBit p = false
      · rw [if_pos h, if_pos ⟨by omega, h.2⟩]
      · rw [if_neg h, if_neg (fun h2 => ?_)]
        by_cases e : p = i
        · subst e; rw [ha] at h2; cases h2.2
        · exact h ⟨by omega, h2.2⟩
  · simp only [f_X9_prepare_L23]
    rw [ct_n (hc0 _ _ _) (hx0 _ _ _), ob, if_pos (nI_le (Nat.le_refl _) (by omega))]
