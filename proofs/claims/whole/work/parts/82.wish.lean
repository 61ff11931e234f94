/-! ===== wishes: met, plan; kept ===== -/
theorem bm_tb {u n : Nat} (h : u < 2 ^ n) : bm u.testBit n = u := (bm_of h (fun _ _ => rfl)).symm
/-- bits counted by the reference -/
theorem clr_all : ∀ u, u < 256 → u ≠ 0 → (nI u &&& (nI u - 1)) = nI (u &&& (u - 1)) ∧ u &&& (u - 1) < u ∧ pc (u &&& (u - 1)) + 1 = pc u := by decide +kernel
theorem pc_0 : pc 0 = 0 := by decide
theorem e_bits {u : Nat} {μ : Mm} (h : u < 256) : f_X11_bits (nI u) μ = some (nI (pc u)) := by
  have key : ∀ k u n, u < 256 → u ≤ k → whl (f_X11_bits_L4 μ) (nI n, nI u) = some (nI (n + pc u)) := by
    intro k
    induction k with
    | zero =>
      intro u n hu hk
      have : u = 0 := by omega
      subst this
      refine whl_r ?_
      simp only [f_X11_bits_L4]
      rw [if_pos (show nI 0 = 0 from rfl), pc_0]
      rfl
    | succ k ih =>
      intro u n hu hk
      by_cases e : u = 0
      · subst e
        refine whl_r ?_
        simp only [f_X11_bits_L4]
        rw [if_pos (show nI 0 = 0 from rfl), pc_0]
        rfl
      · obtain ⟨h1, h2, h3⟩ := clr_all u hu e
        rw [whl_l (s' := (nI (n + 1), nI (u &&& (u - 1)))) (by
          simp only [f_X11_bits_L4]
          rw [if_neg (by rw [nI_z (by omega)]; exact e), ob, ob, h1, nI_1]), ih _ _ (by omega) (by omega)]
        congr 2
        omega
  unfold f_X11_bits
  have := key 255 u 0 h (by omega)
  rw [Nat.zero_add] at this
  rw [show ((0 : Int32), nI u) = (nI 0, nI u) from rfl, this, ob]
/-- whether the k-th wish is met -/
def wm (T : Tn) (d : Nat → Nat) (us : Nat → Bool) (k : Nat) : Bool := (decide (T 13 k < T 0 1) && c_beh T d (Nat.testBit 7) us (T 13 k) (T 14 k + 1) (T 12 k)) == (T 15 k == 0)
def met8 (T : Tn) (d : Nat → Nat) (us : Nat → Bool) : Nat := bm (fun k => decide (k < T 0 9) && wm T d us k) 8
theorem met8_lt (T : Tn) (d : Nat → Nat) (us : Nat → Bool) : met8 T d us < 256 := bm_lt _ 8
theorem nI_bb (x y : Bool) : (nI x.toNat = nI y.toNat) = (x = y) := by cases x <;> cases y <;> decide
theorem c_wishesMet {X c u : Nat} {T : Tn} {d : Nat → Nat} {ν : Mm} (ok : OkT T) (od : OkD (T 0 0) d) (h : Sp X c T d ν) (hu : u < 256) : ∃ ν', f_X10_wishesMet X (nI u) ν = some (nI (met8 T d u.testBit), ν') ∧ Sp X c T d ν' := by
  have hn := ok.1.1
  have hn9 := ok.1.2.2.2.2.2.2.2.2.2.2.1
  have hn1 := ok.1.2.1
  unfold f_X10_wishesMet
  rw [if_pos (by rw [mk_0 h.1.1])]
  have key := whl_i (body := f_X10_wishesMet_L4 X (nI u)) (T 0 9) (fun j (st : Int32 × Int32 × Mm) => st.1 = nI (bm (fun k => decide (k < j) && wm T d u.testBit k) 8) ∧ st.2.1 = nI j ∧ Sp X c T d st.2.2) (Q := fun r => r.1 = nI (met8 T d u.testBit) ∧ Sp X c T d r.2) (s0 := ((0 : Int32), (0 : Int32), ν)) ⟨by
      have : (fun k => decide (k < 0) && wm T d u.testBit k) = fun _ => false := by funext k; simp
      rw [this, ← bm_0]; rfl, rfl, h⟩ ?_ ?_
  · obtain ⟨r, k1, k2, k3⟩ := key
    exact ⟨r.2, by rw [k1, ob, k2], k3⟩
  · rintro j ⟨s1, s2, π⟩ hj ⟨e1, e2, hS⟩
    replace e1 : s1 = _ := e1
    replace e2 : s2 = nI j := e2
    replace hS : Sp X c T d π := hS
    subst e1; subst e2
    have hw := cb_w hS.1
    have hp := cb_p hS.1
    have hwi := ok.2.2.2.2.2.2.2.2.1 j hj
    have fin : ∀ (m : Bool) (π' : Mm), f_X10_wishesMet_J130 X (nI u) (nI (bm (fun k => decide (k < j) && wm T d u.testBit k) 8)) (nI j) (nI (T 15 j == 0).toNat) (nI m.toNat) π' = some (.inl (nI (bm (fun k => decide (k < j) && wm T d u.testBit k) 8 ||| (if m == (T 15 j == 0) then 2 ^ j else 0)), nI (j + 1), π')) := by
      intro m π'
      unfold f_X10_wishesMet_J130 f_X10_wishesMet_J143
      simp only [nI_bb, ob, nI_1, b_one (by omega : j < 32), nI_or]
      by_cases e : m = (T 15 j == 0)
      · have : (m == (T 15 j == 0)) = true := by rw [e]; simp
        rw [if_pos e, if_pos this]
      · have : ¬ (m == (T 15 j == 0)) = true := by simpa using e
        rw [if_neg e, if_neg this, Nat.or_zero]
    have st : f_X10_wishesMet_L4 X (nI u) (nI (bm (fun k => decide (k < j) && wm T d u.testBit k) 8), nI j, π) = f_X10_wishesMet_J39 X (nI u) (nI (bm (fun k => decide (k < j) && wm T d u.testBit k) 8)) (nI j) (nI (T 15 j == 0).toNat) π := by
      simp only [f_X10_wishesMet_L4]
      rw [hp, ob, tc_p7 hw, ob, ct_s12 hw hS.2.1, ob, if_neg (by rw [nI_le_i (by omega) (by omega)]; omega), ob, tc_p7 hw, ob, ct_12_0 hw hS.2.1 ok hj, ob]
      by_cases e : T 15 j = 0
      · rw [e, if_pos (show nI (1 - 0) = 1 from rfl)]; rfl
      · have e1 : T 15 j = 1 := by omega
        rw [e1, if_neg (by decide)]; rfl
    rw [st]
    unfold f_X10_wishesMet_J39 f_X10_wishesMet_J128
    simp only [hp, ob, tc_p7 hw, ct_12_1 hw hS.2.1 ok hj, ct_12_2 hw hS.2.1 ok hj, e_isFact' hw hS.2.1 ok, bz_if]
    by_cases ef : T 13 j < T 0 1
    · rw [if_pos (inR_nI ef (by omega))]
      obtain ⟨k1, k2, k3⟩ := sp_sf (v := 7) (us := u.testBit) ok hS ef (by decide)
      rw [bm_tb (n := 8) hu] at k1
      have hp2 := cb_p k2.1
      have hw2 := cb_w k2.1
      rw [rp_0_3 hS.1.1, ob, show (7 : Int32) = nI 7 from rfl, k1, ob, rp_0_3 k2.1.1, ob, hp2, ob, tc_p7 hw2, ob, ct_12_3 hw2 k2.2.1 ok hj, ob, e_behind k2.1.1 ok od k2.2.2.1 k2.2.2.2 k3 ef (by omega), ob, bmb (by omega) (by decide)]
      have e0 : ∀ (z : Bool) (α : Type) (x : Int32 → α), (if nI z.toNat = 0 then x 0 else x 1) = x (nI z.toNat) := by intro z α x; cases z <;> rfl
      rw [e0 _ _ (fun z => f_X10_wishesMet_J130 X (nI u) (nI (bm (fun k => decide (k < j) && wm T d u.testBit k) 8)) (nI j) (nI (T 15 j == 0).toNat) z (m_sf X T (T 13 j) (Nat.testBit 7) u.testBit π)), fin]
      refine ⟨_, rfl, ?_, rfl, k2⟩
      show nI _ = nI _
      rw [← bm_add (by omega)]
      unfold wm
      rw [decide_eq_true ef, Bool.true_and]
    · rw [if_neg (fun q => ef (by have := q.2; rw [nI_toInt (by omega)] at this; omega)), show (0 : Int32) = nI (false).toNat from rfl, fin]
      refine ⟨_, rfl, ?_, rfl, hS⟩
      show nI _ = nI _
      rw [← bm_add (by omega)]
      unfold wm
      rw [decide_eq_false ef, Bool.false_and]
  · rintro ⟨s1, s2, π⟩ ⟨e1, e2, hS⟩
    replace e1 : s1 = _ := e1
    replace e2 : s2 = nI (T 0 9) := e2
    replace hS : Sp X c T d π := hS
    subst e2
    refine ⟨(s1, π), ?_, e1, hS⟩
    simp only [f_X10_wishesMet_L4]
    rw [cb_p hS.1, ob, tc_p7 (cb_w hS.1), ob, ct_s12 (cb_w hS.1) hS.2.1, ob, if_pos (nI_le (Nat.le_refl _) (by omega))]
/-- the reference behind a set of always dull ones -/
theorem IR_kn37 {X : Nat} {s : Sv} {μ : Mm} {κ : Ks} {a : Nat → Int32} {v : Int32} (h : IR X s μ) (ho : ∀ k, k < 37 ∨ 42 < k → κ.2 k = mm_I μ (X + 90) k) : IR X s (ms_I (m_kn X κ a (ms_I μ (X + 90) 37 v)) (X + 90) 37 0) ∧ ChM X μ (ms_I (m_kn X κ a (ms_I μ (X + 90) 37 v)) (X + 90) 37 0) := by
  have hi : ∀ q, q ≠ X + 90 → q ≠ X + 111 → q ≠ X + 112 → mm_I (ms_I (m_kn X κ a (ms_I μ (X + 90) 37 v)) (X + 90) 37 0) q = mm_I μ q := fun q h1 h2 h3 => by rw [iI, if_neg h1, kn_o h1 h2 h3, iI, if_neg h1]
  constructor
  · refine IR_scr h.1 (fun k hk => ?_) (by rfl) (fun q h1 h2 h3 => hi q h3 (by unfold scM at h2; omega) (by unfold scM at h2; omega)) (fun _ _ _ _ => by rfl) h
    rw [rI]
    by_cases e : k = 37
    · rw [if_pos ⟨rfl, e⟩, e, h.2.1.2.2.2.2.1]
    · rw [if_neg (fun q => e q.2), kn_90]
      exact ho k (by unfold fdM at hk; omega)
  · exact ⟨fun q hq => hi q (by unfold inM at hq; omega) (by unfold inM at hq; omega) (by unfold inM at hq; omega), fun _ _ => rfl, rfl, rfl⟩
theorem m37_m {X : Nat} {T : Tn} {μ : Mm} {v : Int32} (hm : MTn (X + 90) 0 T μ) : MTn (X + 90) 0 T (ms_I μ (X + 90) 37 v) := mtn_x (fun q h1 h2 => by rw [iI, if_neg (by omega)]) hm
theorem r_metBy {X u : Nat} {s : Sv} {ν : Mm} (ok : OkT s.1) (ht : s.2.1 < (EN s.1).length) (h : IR X s ν) (hu : u < 256) : ∃ π, f_X11_metBy (X + 90) (nI u) ν = some (nI (met8 s.1 (dr s.1 s.2.1) u.testBit), π) ∧ IR X s π ∧ ChM X ν π := by
  have od := dr_ok ok ht
  have hn := ok.1.1
  have hn9 := ok.1.2.2.2.2.2.2.2.2.2.2.1
  have hlen := EN_len ok
  have hS : Sh X (ms_I ν (X + 90) 37 (nI u)) := h.1
  have hm := m37_m (v := nI u) h.2.1.1
  generalize hT : s.1 = T at *
  generalize hd : dr T s.2.1 = d at od
  have hr : RowR (lN (rwT T s.2.1)) (T 0 0) d := by rw [← hd]; exact dr_R ok ht
  have hf0 : ∀ k, k < 37 ∨ 42 < k → (o_fg (mm_I (ms_I ν (X + 90) 37 (nI u)) (X + 90))) k = mm_I ν (X + 90) k := fun k hk => by rw [fg_o (by omega), rI, if_neg (by omega)]
  have hf37 : (o_fg (mm_I (ms_I ν (X + 90) 37 (nI u)) (X + 90))) 37 = nI (bm u.testBit 8) := by rw [fg_o (by omega), rI, if_pos ⟨rfl, rfl⟩, bm_tb (n := 8) hu]
  unfold f_X11_metBy
  rw [if_pos (by rw [mk_90 h.1]), wf_90 h.1, ob, e_forget hS, ob]
  generalize o_fg (mm_I (ms_I ν (X + 90) 37 (nI u)) (X + 90)) = o0 at hf0 hf37
  have hrow : ∀ (κ : Ks) (a : Nat → Int32), κ.2 33 = nI s.2.1 → ga_L (X + 110) (κ.2 33) (m_kn X κ a (ms_I ν (X + 90) 37 (nI u))) = some (lN (rwT T s.2.1)) := by
    intro κ a hk
    rw [hk, ra_110 (kn_s hS) (by omega)]
    have := h.2.1.2.2.2.2.2 s.2.1 (by rw [hT]; exact ht)
    rw [hT] at this
    exact congrArg some this
  have key := whl_i (body := f_X11_metBy_L13 (X + 90)) 28 (fun j (st : Int32 × Int32 × Mm) => st.1 = nI (bm (fun k => decide (k < T 0 9) && (decide (T 14 k < j) && wm T d u.testBit k)) 8) ∧ st.2.1 = nI j ∧ ∃ a, st.2.2 = m_kn X (k_run T d (Nat.testBit 7) u.testBit (k_0, o0) j) a (ms_I ν (X + 90) 37 (nI u))) (Q := fun r => r.1 = nI (met8 T d u.testBit) ∧ ∃ a, r.2 = m_kn X (k_run T d (Nat.testBit 7) u.testBit (k_0, o0) 28) a (ms_I ν (X + 90) 37 (nI u))) (s0 := ((0 : Int32), (0 : Int32), m_kn X (k_0, o0) (mm_I (ms_I ν (X + 90) 37 (nI u)) (X + 112)) (ms_I ν (X + 90) 37 (nI u)))) ⟨by
      have : (fun k => decide (k < T 0 9) && (decide (T 14 k < 0) && wm T d u.testBit k)) = fun _ => false := by funext k; simp
      rw [this, ← bm_0]; rfl, rfl, _, rfl⟩ ?_ ?_
  · obtain ⟨r, k1, k2, a, k3⟩ := key
    rw [k1, ob]
    unfold f_X11_metBy_J128
    rw [k2, k3, wf_90 (kn_s hS), ob]
    refine ⟨_, rfl, IR_kn37 h (fun k hk => ?_)⟩
    rw [k_run_o (by omega)]
    exact hf0 k hk
  · rintro j ⟨s1, s2, π⟩ hj ⟨e1, e2, a, e3⟩
    replace e1 : s1 = _ := e1
    replace e2 : s2 = nI j := e2
    replace e3 : π = _ := e3
    subst e1; subst e2; subst e3
    have o33 : ∀ n, (k_run T d (Nat.testBit 7) u.testBit (k_0, o0) n).2 33 = nI s.2.1 := fun n => by rw [k_run_o (by omega)]; exact (hf0 33 (by omega)).trans h.2.1.2.2.2.1
    have o37 : ∀ n, (k_run T d (Nat.testBit 7) u.testBit (k_0, o0) n).2 37 = nI (bm u.testBit 8) := fun n => by rw [k_run_o (by omega)]; exact hf37
    simp only [f_X11_metBy_L13]
    have hD := e_byDayR (X := X) (μ := ms_I ν (X + 90) 37 (nI u)) (a := a) (day := j) (v := 7) (us := u.testBit) hS hm ok od hr (o37 j) hj (by decide)
    have hN := e_byNightR (X := X) (μ := ms_I ν (X + 90) 37 (nI u)) (a := a) (day := j) (v := 7) (us := u.testBit) (s := k_day T d (Nat.testBit 7) (fun q => dl T q j || u.testBit q) j (k_run T d (Nat.testBit 7) u.testBit (k_0, o0) j)) hS hm ok od hr (by rw [k_day_o (by omega)]; exact o37 j) hj (by decide)
    rw [if_neg (by rw [show (28 : Int32) = nI 28 from rfl, nI_le_i (by omega) (by omega)]; omega), rp_90_34 (kn_s hS), ob, rf_90 (kn_s hS), ob, kn_90, hrow _ _ (o33 j), ob, show (7 : Int32) = nI 7 from rfl, hD, ob, rp_90_34 (kn_s hS), ob, rf_90 (kn_s hS), ob, kn_90, hrow _ _ (by rw [k_day_o (by omega)]; exact o33 j), ob, hN, ob]
    generalize k_ah 7 (k_day T d (Nat.testBit 7) (fun q => dl T q j || u.testBit q) j (k_run T d (Nat.testBit 7) u.testBit (k_0, o0) j)) a = a2
    have e4 : k_ngt T d (Nat.testBit 7) (fun q => dl T q j || u.testBit q) j (k_day T d (Nat.testBit 7) (fun q => dl T q j || u.testBit q) j (k_run T d (Nat.testBit 7) u.testBit (k_0, o0) j)) = k_run T d (Nat.testBit 7) u.testBit (k_0, o0) (j + 1) := rfl
    rw [e4]
    have hS2 : Sh X (m_kn X (k_run T d (Nat.testBit 7) u.testBit (k_0, o0) (j + 1)) a2 (ms_I ν (X + 90) 37 (nI u))) := kn_s hS
    have hM2 := kn_m (s := k_run T d (Nat.testBit 7) u.testBit (k_0, o0) (j + 1)) (a := a2) hm
    have hkk : ∀ p, p < 8 → mm_I (m_kn X (k_run T d (Nat.testBit 7) u.testBit (k_0, o0) (j + 1)) a2 (ms_I ν (X + 90) 37 (nI u))) (X + 111) p = nI (bm ((k_run T d (Nat.testBit 7) u.testBit (k_0, o0) (j + 1)).1 p) 12) := fun p hp => kn_k hp
    generalize hρ : m_kn X (k_run T d (Nat.testBit 7) u.testBit (k_0, o0) (j + 1)) a2 (ms_I ν (X + 90) 37 (nI u)) = ρ at hS2 hM2 hkk
    have inner : whl (f_X11_metBy_L54 (X + 90) (nI j) ρ) (nI (bm (fun k => decide (k < T 0 9) && (decide (T 14 k < j) && wm T d u.testBit k)) 8), (0 : Int32)) = some (nI (bm (fun k => decide (k < T 0 9) && (decide (T 14 k < j + 1) && wm T d u.testBit k)) 8)) := by
      refine whl_c (T 0 9) (fun x => (nI (bm (fun k => decide (k < T 0 9) && ((decide (T 14 k < j) || (decide (k < x) && decide (T 14 k = j))) && wm T d u.testBit k)) 8), nI x)) ?_ (fun x hx => ?_) ?_
      · congr 2
        apply bm_x
        intro k hk
        simp
      · have hwi := ok.2.2.2.2.2.2.2.2.1 x hx
        simp only [f_X11_metBy_L54, f_X11_metBy_J116, rp_90_12 hS2, rp_90_25 hS2, rp_90_26 hS2, rp_90_27 hS2, rp_90_28 hS2, rp_90_35 hS2, mr_n9 hS2 hM2, mr_105 hS2 hM2 ok hx, mr_106 hS2 hM2 ok hx, mr_107 hS2 hM2 ok hx, mr_108 hS2 hM2 ok hx, ob, nI_1, ra_111 hS2 (by omega : T 12 x < 8), hkk _ (by omega : T 12 x < 8), bmb (by omega : T 13 x < 12) (by decide : 12 ≤ 31), b_one (by omega : x < 32), nI_or, bm_set _ (by omega : x < 8)]
        rw [if_neg (by rw [nI_le_i (by omega) (by omega)]; omega)]
        by_cases ed : T 14 x = j
        · rw [if_pos (by rw [ed]), k_run_1 ok od]
          have hw : wm T d u.testBit x = ((decide (T 13 x < T 0 1) && c_beh T d (Nat.testBit 7) u.testBit (T 13 x) (j + 1) (T 12 x)) == (T 15 x == 0)) := by unfold wm; rw [ed]
          generalize (decide (T 13 x < T 0 1) && c_beh T d (Nat.testBit 7) u.testBit (T 13 x) (j + 1) (T 12 x)) = z at hw
          have h15 : T 15 x = 0 ∨ T 15 x = 1 := by omega
          have hc : (nI z.toNat = nI (T 15 x)) = (wm T d u.testBit x = false) := by
            rw [hw]
            rcases h15 with q | q <;> rw [q] <;> cases z <;> decide
          simp only [hc]
          cases ew : wm T d u.testBit x with
          | false =>
            rw [if_pos rfl]
            refine st2 rfl (fun k hk => ?_)
            by_cases ek : k = x
            · subst ek; rw [ew]; simp
            · have : decide (k < x + 1) = decide (k < x) := by
                by_cases q : k < x
                · rw [decide_eq_true q, decide_eq_true (by omega)]
                · rw [decide_eq_false q, decide_eq_false (by omega)]
              rw [this]
          | true =>
            rw [if_neg (by decide)]
            refine st2 rfl (fun k hk => ?_)
            by_cases ek : k = x
            · subst ek
              rw [ew, decide_eq_true hx, decide_eq_true ed, decide_eq_true (by omega : k < k + 1)]
              simp
            · have : decide (k < x + 1) = decide (k < x) := by
                by_cases q : k < x
                · rw [decide_eq_true q, decide_eq_true (by omega)]
                · rw [decide_eq_false q, decide_eq_false (by omega)]
              have e5 : (k == x) = false := by simpa using ek
              rw [this, e5, Bool.or_false]
        · rw [if_neg (by rw [nI_eq_i (by omega) (by omega)]; exact ed)]
          refine st2 rfl (fun k hk => ?_)
          by_cases ek : k = x
          · subst ek; rw [decide_eq_false ed]; simp
          · have : decide (k < x + 1) = decide (k < x) := by
              by_cases q : k < x
              · rw [decide_eq_true q, decide_eq_true (by omega)]
              · rw [decide_eq_false q, decide_eq_false (by omega)]
            rw [this]
      · simp only [f_X11_metBy_L54, rp_90_12 hS2, mr_n9 hS2 hM2, ob]
        rw [if_pos (nI_le (Nat.le_refl _) (by omega))]
        congr 2
        apply congrArg nI
        apply bm_x
        intro k hk
        by_cases q : k < T 0 9
        · rw [decide_eq_true q]
          have : decide (T 14 k < j + 1) = (decide (T 14 k < j) || (true && decide (T 14 k = j))) := by
            by_cases q1 : T 14 k < j
            · rw [decide_eq_true q1, decide_eq_true (by omega)]; rfl
            · by_cases q2 : T 14 k = j
              · rw [decide_eq_true q2, decide_eq_true (by omega)]; simp
              · rw [decide_eq_false q1, decide_eq_false q2, decide_eq_false (by omega)]; rfl
          rw [this]
        · rw [decide_eq_false q]; rfl
    rw [inner, ob]
    unfold f_X11_metBy_J122
    rw [ob, nI_1]
    exact ⟨_, rfl, rfl, rfl, a2, hρ.symm⟩
  · rintro ⟨s1, s2, π⟩ ⟨e1, e2, a, e3⟩
    replace e1 : s1 = _ := e1
    replace e2 : s2 = nI 28 := e2
    replace e3 : π = _ := e3
    subst e1; subst e2; subst e3
    refine ⟨_, by simp only [f_X11_metBy_L13]; rw [if_pos (by decide)], ?_, a, rfl⟩
    show nI _ = nI _
    congr 1
    apply bm_x
    intro k hk
    by_cases q : k < T 0 9
    · have := (ok.2.2.2.2.2.2.2.2.1 k q).2.2.1
      rw [decide_eq_true this, Bool.true_and]
    · rw [decide_eq_false q]; rfl
