/-! ===== a new town: the model begins a draft, and settles ===== -/
section SET
variable {X n x : Nat} {B : Nat → Nat} {μ ν ρ : Mm} {D : Tn}
theorem e_begin (h : Sh X μ) : ∃ ν, f_X11_begin (X + 90) μ = some ν ∧ MTn (X + 90) 1 D0 ν ∧ mm_I ν (X + 90) 31 = 0 ∧ (∀ q, q ≠ X + 90 → q ≠ X + 92 → q ≠ X + 94 → q ≠ X + 109 → mm_I ν q = mm_I μ q) ∧ (∀ k, k ≠ 31 → mm_I ν (X + 90) k = mm_I μ (X + 90) k) ∧ (∀ k, k < 11 → mm_I ν (X + 92) k = mm_I μ (X + 92) k) ∧ (∀ k, k < 8 → mm_I ν (X + 94) k = mm_I μ (X + 94) k ∧ mm_I ν (X + 109) k = mm_I μ (X + 109) k) := by
  unfold f_X11_begin
  rw [if_pos (by rw [mk_90 h])]
  have l1 : whl (f_X11_begin_L2 (X + 90)) ((0 : Int32), μ) = some (ms_A μ (X + 92) (fun k => if 11 ≤ k ∧ k < 22 then 0 else mm_I μ (X + 92) k)) := by
    refine whl_c 11 (fun i => (nI i, ms_A μ (X + 92) (fun k => if 11 ≤ k ∧ k < 11 + i then 0 else mm_I μ (X + 92) k))) ?_ (fun i hi => ?_) ?_
    · have : (fun k => if 11 ≤ k ∧ k < 11 + 0 then (0 : Int32) else mm_I μ (X + 92) k) = mm_I μ (X + 92) := by
        funext k
        rw [if_neg (by omega)]
      rw [this, sA_id]
      rfl
    · have hS : Sh X (ms_A μ (X + 92) (fun k => if 11 ≤ k ∧ k < 11 + i then 0 else mm_I μ (X + 92) k)) := h
      simp only [f_X11_begin_L2]
      rw [if_neg (by rw [show (11 : Int32) = nI 11 from rfl, nI_le_i (by omega) (by omega)]; omega), rp_90_12 hS, ob, show (11 : Int32) + nI i = nI (11 + i) from nI_add 11 i, wa_92 hS _ (by omega), ob, ob, nI_1, sA_I]
      congr 5
      funext k
      by_cases z : k = 11 + i
      · rw [z, u1_s, if_pos (by omega)]
      · rw [u1_n _ _ z]
        by_cases w : 11 ≤ k ∧ k < 11 + i
        · rw [if_pos w, if_pos (by omega)]
        · rw [if_neg w, if_neg (by omega)]
    · rfl
  rw [l1, ob]
  unfold f_X11_begin_J24
  have hS1 : Sh X (ms_A μ (X + 92) (fun k => if 11 ≤ k ∧ k < 22 then 0 else mm_I μ (X + 92) k)) := h
  rw [rp_90_12 hS1, ob, show pa_I (X + 92) 16 28 _ = _ from wa_92 (i := 16) hS1 28 (by decide), ob, sA_I]
  have hS2 : Sh X (ms_A μ (X + 92) (u1 (fun k => if 11 ≤ k ∧ k < 22 then 0 else mm_I μ (X + 92) k) 16 28)) := h
  have q92 : ∀ k, u1 (fun k => if 11 ≤ k ∧ k < 22 then (0 : Int32) else mm_I μ (X + 92) k) 16 28 k = if k = 16 then 28 else if 11 ≤ k ∧ k < 22 then 0 else mm_I μ (X + 92) k := fun k => by
    by_cases z : k = 16
    · rw [z, u1_s, if_pos rfl]
    · rw [u1_n _ _ z, if_neg z]
  generalize u1 (fun k => if 11 ≤ k ∧ k < 22 then (0 : Int32) else mm_I μ (X + 92) k) 16 28 = g92 at q92 hS2 ⊢
  have l2 : whl (f_X11_begin_L35 (X + 90)) ((0 : Int32), ms_A μ (X + 92) g92) = some (ms_A (ms_A (ms_A μ (X + 92) g92) (X + 94) (fun k => if 8 ≤ k ∧ k < 16 then 0 else mm_I μ (X + 94) k)) (X + 109) (fun k => if 8 ≤ k ∧ k < 16 then 0 else mm_I μ (X + 109) k)) := by
    refine whl_c 8 (fun i => (nI i, ms_A (ms_A (ms_A μ (X + 92) g92) (X + 94) (fun k => if 8 ≤ k ∧ k < 8 + i then 0 else mm_I μ (X + 94) k)) (X + 109) (fun k => if 8 ≤ k ∧ k < 8 + i then 0 else mm_I μ (X + 109) k))) ?_ (fun i hi => ?_) ?_
    · have e1 : (fun k => if 8 ≤ k ∧ k < 8 + 0 then (0 : Int32) else mm_I μ (X + 94) k) = mm_I (ms_A μ (X + 92) g92) (X + 94) := by
        rw [iA, if_neg (by omega)]
        funext k
        rw [if_neg (by omega)]
      have e2 : (fun k => if 8 ≤ k ∧ k < 8 + 0 then (0 : Int32) else mm_I μ (X + 109) k) = mm_I (ms_A μ (X + 92) g92) (X + 109) := by
        rw [iA, if_neg (by omega)]
        funext k
        rw [if_neg (by omega)]
      rw [e1, sA_id, e2, sA_id]
      rfl
    · have hS : ∀ f g, Sh X (ms_A (ms_A (ms_A μ (X + 92) g92) (X + 94) f) (X + 109) g) := fun _ _ => h
      simp only [f_X11_begin_L35]
      rw [if_neg (by rw [show (8 : Int32) = nI 8 from rfl, nI_le_i (by omega) (by omega)]; omega), rp_90_14 (hS _ _), ob, a8, wa_94 (hS _ _) _ (by omega), ob]
      rw [sA_c _ (show X + 94 ≠ X + 109 by omega), sA_I, sA_c _ (show X + 109 ≠ X + 94 by omega)]
      rw [rp_90_29 (hS _ _), ob, wa_109 (hS _ _) _ (by omega), ob, ob, nI_1, sA_I]
      have key : ∀ a, u1 (fun k => if 8 ≤ k ∧ k < 8 + i then (0 : Int32) else mm_I μ a k) (8 + i) 0 = fun k => if 8 ≤ k ∧ k < 8 + (i + 1) then 0 else mm_I μ a k := by
        intro a
        funext k
        by_cases z : k = 8 + i
        · rw [z, u1_s, if_pos (by omega)]
        · rw [u1_n _ _ z]
          by_cases w : 8 ≤ k ∧ k < 8 + i
          · rw [if_pos w, if_pos (by omega)]
          · rw [if_neg w, if_neg (by omega)]
      rw [key, key]
    · rfl
  rw [l2, ob]
  unfold f_X11_begin_J67
  have hS3 : Sh X (ms_A (ms_A (ms_A μ (X + 92) g92) (X + 94) (fun k => if 8 ≤ k ∧ k < 16 then 0 else mm_I μ (X + 94) k)) (X + 109) (fun k => if 8 ≤ k ∧ k < 16 then 0 else mm_I μ (X + 109) k)) := h
  rw [wf_90 hS3, ob]
  refine ⟨_, rfl, ⟨fun j hj => ?_, fun p hp => ?_, fun i hi => absurd hi (Nat.not_lt_zero _), fun i hi => absurd hi (Nat.not_lt_zero _), fun i hi => absurd hi (Nat.not_lt_zero _), fun i hi => absurd hi (Nat.not_lt_zero _), fun i hi => absurd hi (Nat.not_lt_zero _), fun p hp => ?_⟩, by rw [rI, if_pos ⟨rfl, rfl⟩], fun q h1 h2 h3 h4 => by rw [iI, if_neg h1, iA, if_neg h4, iA, if_neg h3, iA, if_neg h2], fun k hk => by rw [rI, if_neg (by omega), iA, if_neg (by omega), iA, if_neg (by omega), iA, if_neg (by omega)], fun k hk => ?_, fun k hk => ⟨?_, ?_⟩⟩
  · rw [iI, if_neg (by omega), iA, if_neg (by omega), iA, if_neg (by omega), iA, if_pos rfl, q92]
    unfold D0
    by_cases z : j = 5
    · rw [if_pos (by omega), if_pos ⟨rfl, z⟩]; rfl
    · rw [if_neg (by omega), if_pos (by omega), if_neg (fun w => z w.2)]; rfl
  · rw [iI, if_neg (by omega), iA, if_neg (by omega), iA, if_pos rfl, if_pos (by omega)]
    unfold D0
    rw [if_neg (by omega)]; rfl
  · rw [iI, if_neg (by omega), iA, if_pos rfl, if_pos (by omega)]
    unfold D0
    rw [if_neg (by omega)]; rfl
  · rw [iI, if_neg (by omega), iA, if_neg (by omega), iA, if_neg (by omega), iA, if_pos rfl, q92, if_neg (by omega), if_neg (by omega)]
  · rw [iI, if_neg (by omega), iA, if_neg (by omega), iA, if_pos rfl, if_neg (by omega)]
  · rw [iI, if_neg (by omega), iA, if_pos rfl, if_neg (by omega)]
/-! rows come from the draft -/
def cpm (μ : Mm) (a m : Nat) : Mm := ms_A μ a (fun k => if k < m then mm_I μ a (m + k) else mm_I μ a k)
theorem e_comes {a m L : Nat} (hK : mm_K μ a = (20, L)) (hL : L < 2 ^ 31) (hm : 2 * m ≤ L) : f_X11_comes a (nI m) μ = some (cpm μ a m) := by
  unfold f_X11_comes cpm
  have l1 : whl (f_X11_comes_L2 a (nI m)) ((0 : Int32), μ) = some (ms_A μ a (fun k => if k < m then mm_I μ a (m + k) else mm_I μ a k)) := by
    refine whl_c m (fun i => (nI i, ms_A μ a (fun k => if k < i then mm_I μ a (m + k) else mm_I μ a k))) ?_ (fun i hi => ?_) ?_
    · rw [fill_0 (fun k => mm_I μ a (m + k)), sA_id]
      rfl
    · have hK2 : mm_K (ms_A μ a (fun k => if k < i then mm_I μ a (m + k) else mm_I μ a k)) a = (20, L) := hK
      simp only [f_X11_comes_L2]
      rw [if_neg (by rw [nI_le_i (by omega) (by omega)]; omega), nI_add, e_gaI hK2 (by omega) hL, ob, e_paI hK2 (by omega) hL, ob, ob, nI_1, sA_I, iA, if_pos rfl, if_neg (by omega), u1_fill (fun k => mm_I μ a (m + k))]
    · simp only [f_X11_comes_L2]
      rw [if_pos (nI_le (Nat.le_refl _) (by omega))]
  rw [l1, ob]
def cpl (X : Nat) : List (Nat × Nat) → Mm → Mm
  | [], μ => μ
  | q :: l, μ => cpl X l (cpm μ (X + q.1) q.2)
theorem cpl_n {a : Nat} : ∀ (l : List (Nat × Nat)) (μ : Mm), a ∉ l.map Prod.fst → mm_I (cpl X l μ) (X + a) = mm_I μ (X + a) := by
  intro l
  induction l with
  | nil => intro μ _; rfl
  | cons q l ih =>
    intro μ h
    simp only [List.map_cons, List.mem_cons, not_or] at h
    show mm_I (cpl X l (cpm μ (X + q.1) q.2)) (X + a) = _
    rw [ih _ h.2]
    unfold cpm
    rw [iA, if_neg (by have := h.1; omega)]
theorem cpl_o {b : Nat} : ∀ (l : List (Nat × Nat)) (μ : Mm), (∀ q ∈ l, b ≠ X + q.1) → mm_I (cpl X l μ) b = mm_I μ b := by
  intro l
  induction l with
  | nil => intro μ _; rfl
  | cons q l ih =>
    intro μ h
    show mm_I (cpl X l (cpm μ (X + q.1) q.2)) b = _
    rw [ih _ (fun r hr => h r (List.mem_cons_of_mem _ hr))]
    unfold cpm
    rw [iA, if_neg (h q List.mem_cons_self)]
theorem cpl_i {a m : Nat} : ∀ (l : List (Nat × Nat)) (μ : Mm), (a, m) ∈ l → (l.map Prod.fst).Nodup → mm_I (cpl X l μ) (X + a) = fun k => if k < m then mm_I μ (X + a) (m + k) else mm_I μ (X + a) k := by
  intro l
  induction l with
  | nil => intro μ h; cases h
  | cons q l ih =>
    intro μ h hd
    rw [List.map_cons, List.nodup_cons] at hd
    show mm_I (cpl X l (cpm μ (X + q.1) q.2)) (X + a) = _
    rcases List.mem_cons.mp h with e | e
    · subst e
      rw [cpl_n l _ hd.1]
      unfold cpm
      rw [iA, if_pos rfl]
    · rw [ih _ e hd.2]
      have : q.1 ≠ a := fun z => hd.1 (by rw [z]; exact List.mem_map.mpr ⟨(a, m), e, rfl⟩)
      unfold cpm
      rw [iA, if_neg (by omega)]
theorem cpl_K : ∀ (l : List (Nat × Nat)) (μ : Mm), tl (cpl X l μ) = tl μ ∧ mm_P (cpl X l μ) = mm_P μ ∧ mm_L (cpl X l μ) = mm_L μ := by
  intro l
  induction l with
  | nil => intro μ; exact ⟨rfl, rfl, rfl⟩
  | cons q l ih => intro μ; exact ih _
def c_tab : List (Nat × Nat) := [(92, 11), (94, 8), (95, 12), (96, 12), (97, 8), (98, 8), (99, 8), (100, 8), (101, 8), (102, 8), (103, 8), (104, 8), (105, 8), (106, 8), (107, 8), (108, 8), (109, 8)]
theorem cpl_T (ok : OkT D) (h : MTn (X + 90) 1 D μ) : MTn (X + 90) 0 D (cpl X c_tab μ) := by
  obtain ⟨h1, h2, h3, h4, h5, h6, h7, h8⟩ := h
  have o := ok.1
  have g : ∀ a m k, (a, m) ∈ c_tab → k < m → mm_I (cpl X c_tab μ) (X + a) k = mm_I μ (X + a) (m + k) := fun a m k hm hk => by
    rw [cpl_i c_tab μ hm (by decide)]
    exact if_pos hk
  refine ⟨fun j hj => ?_, fun p hp => ?_, fun i hi => ⟨?_, ?_⟩, fun i hi => ⟨?_, ?_, ?_⟩, fun i hi => ⟨?_, ?_⟩, fun i hi => ⟨?_, ?_, ?_⟩, fun i hi => ⟨?_, ?_, ?_, ?_⟩, fun p hp => ?_⟩
  · rw [show 11 * 0 + j = j by omega]; exact (g 92 11 j (by decide) hj).trans (h1 j hj)
  · rw [show 8 * 0 + p = p by omega]; exact (g 94 8 p (by decide) hp).trans (h2 p hp)
  · rw [show 12 * 0 + i = i by omega]; exact (g 95 12 i (by decide) (by omega)).trans (h3 i hi).1
  · rw [show 12 * 0 + i = i by omega]; exact (g 96 12 i (by decide) (by omega)).trans (h3 i hi).2
  · rw [show 8 * 0 + i = i by omega]; exact (g 97 8 i (by decide) (by omega)).trans (h4 i hi).1
  · rw [show 8 * 0 + i = i by omega]; exact (g 98 8 i (by decide) (by omega)).trans (h4 i hi).2.1
  · rw [show 8 * 0 + i = i by omega]; exact (g 99 8 i (by decide) (by omega)).trans (h4 i hi).2.2
  · rw [show 8 * 0 + i = i by omega]; exact (g 100 8 i (by decide) (by omega)).trans (h5 i hi).1
  · rw [show 8 * 0 + i = i by omega]; exact (g 101 8 i (by decide) (by omega)).trans (h5 i hi).2
  · rw [show 8 * 0 + i = i by omega]; exact (g 102 8 i (by decide) (by omega)).trans (h6 i hi).1
  · rw [show 8 * 0 + i = i by omega]; exact (g 103 8 i (by decide) (by omega)).trans (h6 i hi).2.1
  · rw [show 8 * 0 + i = i by omega]; exact (g 104 8 i (by decide) (by omega)).trans (h6 i hi).2.2
  · rw [show 8 * 0 + i = i by omega]; exact (g 105 8 i (by decide) (by omega)).trans (h7 i hi).1
  · rw [show 8 * 0 + i = i by omega]; exact (g 106 8 i (by decide) (by omega)).trans (h7 i hi).2.1
  · rw [show 8 * 0 + i = i by omega]; exact (g 107 8 i (by decide) (by omega)).trans (h7 i hi).2.2.1
  · rw [show 8 * 0 + i = i by omega]; exact (g 108 8 i (by decide) (by omega)).trans (h7 i hi).2.2.2
  · rw [show 8 * 0 + p = p by omega]; exact (g 109 8 p (by decide) hp).trans (h8 p hp)
/-- the model settles -/
theorem e_settR (h : Sh X μ) (ok : OkT D) (hm : MTn (X + 90) 1 D μ) : ∃ ν, f_X11_settle (X + 90) μ = some ν ∧ mm_P ν = mm_P μ ∧ tl ν = tl μ ∧ MTn (X + 90) 0 D ν ∧ (mm_I ν (X + 90) 32 = nI (EN D).length ∧ mm_I ν (X + 90) 33 = 0 ∧ mm_I ν (X + 90) 46 = 0 ∧ mm_I ν (X + 90) 47 = 0 ∧ mm_I ν (X + 90) 48 = 0 ∧ mm_I ν (X + 90) 64 = 0) ∧ (∀ j, j < 3 → mm_I ν (X + 134) j = 0) ∧ (∀ k, k < (EN D).length → mm_L ν (X + 110) k = lN (rwT D k)) ∧ (∀ k, k ≠ 32 → k ≠ 33 → k ≠ 46 → k ≠ 47 → k ≠ 48 → k ≠ 64 → mm_I ν (X + 90) k = mm_I μ (X + 90) k) ∧ (∀ q, q ≠ X + 90 → q < X + 92 ∨ X + 109 < q → q ≠ X + 134 → mm_I ν q = mm_I μ q) ∧ (∀ q, q ≠ X + 110 → mm_L ν q = mm_L μ q) := by
  have o := ok.1
  have hn14 : (EN D).length ≤ 14833 := EN_len ok
  unfold f_X11_settle
  have cK : ∀ (l : List (Nat × Nat)), mm_K (cpl X l μ) = mm_K μ := fun l => tl_K (cpl_K l μ).1
  have cS : ∀ (l : List (Nat × Nat)), Sh X (cpl X l μ) := fun l => sh_x (cpl_K l μ).2.1 (cpl_K l μ).1 h
  have stp : ∀ (l : List (Nat × Nat)) (a m L : Nat) (p : Nat), mm_K μ (X + a) = (20, L) → L < 2 ^ 31 → 2 * m ≤ L → f_X11_comes (X + a) (nI m) (cpl X l μ) = some (cpl X (l ++ [(a, m)]) μ) := by
    intro l a m L p hK hL hm
    rw [e_comes (L := L) (by rw [cK]; exact hK) hL hm]
    have key : ∀ (l : List (Nat × Nat)) (μ : Mm), cpm (cpl X l μ) (X + a) m = cpl X (l ++ [(a, m)]) μ := by
      intro l
      induction l with
      | nil => intro μ; rfl
      | cons q l ih => intro μ; exact ih _
    rw [key]
  rw [if_pos (by rw [mk_90 h])]
  have s0 : μ = cpl X [] μ := rfl
  rw [rp_90_12 h, ob, show f_X11_comes (X + 92) 11 μ = _ from stp [] 92 11 22 0 (mk_92 h) (by decide) (by decide), ob]
  rw [rp_90_14 (cS _), ob, show f_X11_comes (X + 94) 8 _ = _ from stp _ 94 8 16 0 (mk_94 h) (by decide) (by decide), ob]
  rw [rp_90_15 (cS _), ob, show f_X11_comes (X + 95) 12 _ = _ from stp _ 95 12 24 0 (mk_95 h) (by decide) (by decide), ob]
  rw [rp_90_16 (cS _), ob, show f_X11_comes (X + 96) 12 _ = _ from stp _ 96 12 24 0 (mk_96 h) (by decide) (by decide), ob]
  rw [rp_90_17 (cS _), ob, show f_X11_comes (X + 97) 8 _ = _ from stp _ 97 8 16 0 (mk_97 h) (by decide) (by decide), ob]
  rw [rp_90_18 (cS _), ob, show f_X11_comes (X + 98) 8 _ = _ from stp _ 98 8 16 0 (mk_98 h) (by decide) (by decide), ob]
  rw [rp_90_19 (cS _), ob, show f_X11_comes (X + 99) 8 _ = _ from stp _ 99 8 16 0 (mk_99 h) (by decide) (by decide), ob]
  rw [rp_90_20 (cS _), ob, show f_X11_comes (X + 100) 8 _ = _ from stp _ 100 8 16 0 (mk_100 h) (by decide) (by decide), ob]
  rw [rp_90_21 (cS _), ob, show f_X11_comes (X + 101) 8 _ = _ from stp _ 101 8 16 0 (mk_101 h) (by decide) (by decide), ob]
  rw [rp_90_22 (cS _), ob, show f_X11_comes (X + 102) 8 _ = _ from stp _ 102 8 16 0 (mk_102 h) (by decide) (by decide), ob]
  rw [rp_90_23 (cS _), ob, show f_X11_comes (X + 103) 8 _ = _ from stp _ 103 8 16 0 (mk_103 h) (by decide) (by decide), ob]
  rw [rp_90_24 (cS _), ob, show f_X11_comes (X + 104) 8 _ = _ from stp _ 104 8 16 0 (mk_104 h) (by decide) (by decide), ob]
  rw [rp_90_25 (cS _), ob, show f_X11_comes (X + 105) 8 _ = _ from stp _ 105 8 16 0 (mk_105 h) (by decide) (by decide), ob]
  rw [rp_90_26 (cS _), ob, show f_X11_comes (X + 106) 8 _ = _ from stp _ 106 8 16 0 (mk_106 h) (by decide) (by decide), ob]
  rw [rp_90_27 (cS _), ob, show f_X11_comes (X + 107) 8 _ = _ from stp _ 107 8 16 0 (mk_107 h) (by decide) (by decide), ob]
  rw [rp_90_28 (cS _), ob, show f_X11_comes (X + 108) 8 _ = _ from stp _ 108 8 16 0 (mk_108 h) (by decide) (by decide), ob]
  rw [rp_90_29 (cS _), ob, show f_X11_comes (X + 109) 8 _ = _ from stp _ 109 8 16 0 (mk_109 h) (by decide) (by decide), ob]
  show ∃ ν, (pf_I 12 32 (X + 90) 0 (cpl X c_tab μ)).bind _ = some ν ∧ _
  have mt := cpl_T ok hm
  have c90 : mm_I (cpl X c_tab μ) (X + 90) = mm_I μ (X + 90) := cpl_n c_tab μ (by decide)
  have co : ∀ q, q < X + 92 ∨ X + 109 < q → mm_I (cpl X c_tab μ) q = mm_I μ q := fun q hq => cpl_o c_tab μ (fun r hr => by
    have key : ∀ r ∈ c_tab, 92 ≤ r.1 ∧ r.1 ≤ 109 := by decide
    have := key r hr
    omega)
  obtain ⟨cT, cP, cL⟩ := cpl_K (X := X) c_tab μ
  have hc := cS c_tab
  generalize cpl X c_tab μ = μ1 at mt c90 co cT cP cL hc ⊢
  rw [wf_90 hc, ob]
  have e0 : ms_I μ1 (X + 90) 32 0 = m_rw X 0 (mm_L μ1 (X + 110)) μ1 := by
    unfold m_rw
    show _ = ms_B (ms_I μ1 (X + 90) 32 (nI 0)) (X + 110) (mm_L (ms_I μ1 (X + 90) 32 (nI 0)) (X + 110))
    rw [sB_id]
    rfl
  have run := makeT_run hc mt ok (D 0 0) 10 0 0 0 0 (mm_L μ1 (X + 110)) (by omega) (by omega) (by decide) (by decide) (by rw [enr_EN ok]; omega)
  rw [enr_EN ok, Nat.zero_add] at run
  rw [e0, show f_X11_makeTurnings 10 (X + 90) 0 0 0 (m_rw X 0 (mm_L μ1 (X + 110)) μ1) = _ from run, ob]
  have hS2 : Sh X (m_rw X (EN D).length (pl (mm_L μ1 (X + 110)) 0 ((EN D).map lN)) μ1) := hc
  have r90 : ∀ k, mm_I (m_rw X (EN D).length (pl (mm_L μ1 (X + 110)) 0 ((EN D).map lN)) μ1) (X + 90) k = if k = 32 then nI (EN D).length else mm_I μ (X + 90) k := fun k => by
    unfold m_rw
    rw [iB, rI, c90]
    by_cases z : k = 32
    · rw [if_pos ⟨rfl, z⟩, if_pos z]
    · rw [if_neg (fun w => z w.2), if_neg z]
  have ro : ∀ q, q ≠ X + 90 → mm_I (m_rw X (EN D).length (pl (mm_L μ1 (X + 110)) 0 ((EN D).map lN)) μ1) q = mm_I μ1 q := fun q hq => by
    unfold m_rw
    rw [iB, iI, if_neg hq]
  have rl : ∀ q, q ≠ X + 110 → mm_L (m_rw X (EN D).length (pl (mm_L μ1 (X + 110)) 0 ((EN D).map lN)) μ1) q = mm_L μ q := fun q hq => by
    unfold m_rw
    rw [rB, if_neg hq, ← cL]
    rfl
  have r110 : ∀ k, k < (EN D).length → mm_L (m_rw X (EN D).length (pl (mm_L μ1 (X + 110)) 0 ((EN D).map lN)) μ1) (X + 110) k = lN (rwT D k) := fun k hk => by
    unfold m_rw
    rw [rB, if_pos rfl]
    have := pl_get (old := mm_L μ1 (X + 110)) (s := 0) (i := k) (l := (EN D).map lN) (by rw [List.length_map]; exact hk)
    rw [Nat.zero_add] at this
    rw [this, List.getElem_map, rwT_e hk]
  have rT : tl (m_rw X (EN D).length (pl (mm_L μ1 (X + 110)) 0 ((EN D).map lN)) μ1) = tl μ := cT
  have rP' : mm_P (m_rw X (EN D).length (pl (mm_L μ1 (X + 110)) 0 ((EN D).map lN)) μ1) = mm_P μ := cP
  have rM : MTn (X + 90) 0 D (m_rw X (EN D).length (pl (mm_L μ1 (X + 110)) 0 ((EN D).map lN)) μ1) := rw_m mt
  generalize m_rw X (EN D).length (pl (mm_L μ1 (X + 110)) 0 ((EN D).map lN)) μ1 = μ2 at hS2 r90 ro rl r110 rT rP' rM ⊢
  rw [wf_90 hS2, ob, wf_90 (shI' hS2 _ _ _), ob, wf_90 (shI' (shI' hS2 _ _ _) _ _ _), ob, wf_90 (shI' (shI' (shI' hS2 _ _ _) _ _ _) _ _ _), ob, e_pfZ (by rw [mk_90 (shI' (shI' (shI' (shI' hS2 _ _ _) _ _ _) _ _ _) _ _ _)]) (Or.inl rfl), ob]
  have f90 : ∀ k, mm_I (ms_I (ms_I (ms_I (ms_I (ms_I μ2 (X + 90) 33 0) (X + 90) 46 0) (X + 90) 47 0) (X + 90) 48 0) (X + 90) 64 0) (X + 90) k = if k = 64 ∨ k = 48 ∨ k = 47 ∨ k = 46 ∨ k = 33 then 0 else mm_I μ2 (X + 90) k := fun k => by
    rw [rI, rI, rI, rI, rI]
    by_cases z1 : k = 64
    · rw [if_pos ⟨rfl, z1⟩, if_pos (by omega)]
    · by_cases z2 : k = 48
      · rw [if_neg (by omega), if_pos ⟨rfl, z2⟩, if_pos (by omega)]
      · by_cases z3 : k = 47
        · rw [if_neg (by omega), if_neg (by omega), if_pos ⟨rfl, z3⟩, if_pos (by omega)]
        · by_cases z4 : k = 46
          · rw [if_neg (by omega), if_neg (by omega), if_neg (by omega), if_pos ⟨rfl, z4⟩, if_pos (by omega)]
          · by_cases z5 : k = 33
            · rw [if_neg (by omega), if_neg (by omega), if_neg (by omega), if_neg (by omega), if_pos ⟨rfl, z5⟩, if_pos (by omega)]
            · rw [if_neg (by omega), if_neg (by omega), if_neg (by omega), if_neg (by omega), if_neg (by omega), if_neg (by omega)]
  have fo' : ∀ q, q ≠ X + 90 → mm_I (ms_I (ms_I (ms_I (ms_I (ms_I μ2 (X + 90) 33 0) (X + 90) 46 0) (X + 90) 47 0) (X + 90) 48 0) (X + 90) 64 0) q = mm_I μ2 q := fun q hq => by rw [iI, if_neg hq, iI, if_neg hq, iI, if_neg hq, iI, if_neg hq, iI, if_neg hq]
  have hS3 : Sh X (ms_I (ms_I (ms_I (ms_I (ms_I μ2 (X + 90) 33 0) (X + 90) 46 0) (X + 90) 47 0) (X + 90) 48 0) (X + 90) 64 0) := hS2
  have fL : mm_L (ms_I (ms_I (ms_I (ms_I (ms_I μ2 (X + 90) 33 0) (X + 90) 46 0) (X + 90) 47 0) (X + 90) 48 0) (X + 90) 64 0) = mm_L μ2 := rfl
  have fT : tl (ms_I (ms_I (ms_I (ms_I (ms_I μ2 (X + 90) 33 0) (X + 90) 46 0) (X + 90) 47 0) (X + 90) 48 0) (X + 90) 64 0) = tl μ2 := rfl
  have fP : mm_P (ms_I (ms_I (ms_I (ms_I (ms_I μ2 (X + 90) 33 0) (X + 90) 46 0) (X + 90) 47 0) (X + 90) 48 0) (X + 90) 64 0) = mm_P μ2 := rfl
  generalize ms_I (ms_I (ms_I (ms_I (ms_I μ2 (X + 90) 33 0) (X + 90) 46 0) (X + 90) 47 0) (X + 90) 48 0) (X + 90) 64 0 = μ3 at f90 fo' hS3 fL fT fP ⊢
  have l3 : whl (f_X11_settle_L192 (X + 90)) ((0 : Int32), μ3) = some (ms_A μ3 (X + 134) (fun k => if k < 3 then 0 else mm_I μ3 (X + 134) k)) := by
    refine whl_c 3 (fun i => (nI i, ms_A μ3 (X + 134) (fun k => if k < i then 0 else mm_I μ3 (X + 134) k))) ?_ (fun i hi => ?_) ?_
    · rw [fill_0 (fun _ => (0 : Int32)), sA_id]
      rfl
    · have hS : Sh X (ms_A μ3 (X + 134) (fun k => if k < i then 0 else mm_I μ3 (X + 134) k)) := hS3
      simp only [f_X11_settle_L192]
      rw [if_neg (by rw [show (3 : Int32) = nI 3 from rfl, nI_le_i (by omega) (by omega)]; omega), rp_90_72 hS, ob, e_paZ (mk_134 hS) (by omega) (by decide) (Or.inl rfl), ob, ob, nI_1, sA_I, u1_fill (fun _ => (0 : Int32))]
    · rfl
  rw [l3, ob]
  refine ⟨_, rfl, fP.trans rP', fT.trans rT, mtn_x (fun q a b => by rw [iA, if_neg (by omega), fo' q (by omega)]) rM, ⟨?_, ?_, ?_, ?_, ?_, ?_⟩, fun j hj => ?_, fun k hk => ?_, fun k h1 h2 h3 h4 h5 h6 => ?_, fun q h1 h2 h3 => ?_, fun q hq => ?_⟩
  · rw [iA, if_neg (by omega), f90, if_neg (by omega), r90, if_pos rfl]
  · rw [iA, if_neg (by omega), f90, if_pos (by omega)]
  · rw [iA, if_neg (by omega), f90, if_pos (by omega)]
  · rw [iA, if_neg (by omega), f90, if_pos (by omega)]
  · rw [iA, if_neg (by omega), f90, if_pos (by omega)]
  · rw [iA, if_neg (by omega), f90, if_pos (by omega)]
  · rw [iA, if_pos rfl, if_pos hj]
  · show mm_L μ3 (X + 110) k = _
    rw [fL]; exact r110 k hk
  · rw [iA, if_neg (by omega), f90, if_neg (by omega), r90, if_neg h1]
  · rw [iA, if_neg h3, fo' q h1, ro q h1, co q h2]
  · show mm_L μ3 q = _
    rw [fL]; exact rl q hq
end SET
