/-! ===== Spread.setTown ===== -/
theorem u1_fill {α : Type} (g old : Nat → α) (i : Nat) : u1 (fun k => if k < i then g k else old k) i (g i) = fun k => if k < i + 1 then g k else old k := by
  funext k
  by_cases h : k = i
  · rw [h, u1_s, if_pos (by omega)]
  · rw [u1_n _ _ h]
    by_cases h2 : k < i
    · rw [if_pos h2, if_pos (by omega)]
    · rw [if_neg h2, if_neg (by omega)]
theorem u1_fill' {α : Type} (g old : Nat → α) (i : Nat) {v : α} (hv : v = g i) : u1 (fun k => if k < i then g k else old k) i v = fun k => if k < i + 1 then g k else old k := by rw [hv, u1_fill]
theorem sA_2 (μ : Mm) {p q : Nat} (h : p ≠ q) (a b a' : Nat → Int32) : ms_A (ms_A (ms_A μ p a) q b) p a' = ms_A (ms_A μ p a') q b := by
  rw [sA_c (ms_A μ p a) (Ne.symm h), sA_A]
theorem sA_3 (μ : Mm) {p q r : Nat} (h : p ≠ q) (h2 : p ≠ r) (a b c a' : Nat → Int32) : ms_A (ms_A (ms_A (ms_A μ p a) q b) r c) p a' = ms_A (ms_A (ms_A μ p a') q b) r c := by
  rw [sA_c (ms_A (ms_A μ p a) q b) (Ne.symm h2), sA_2 μ h]
theorem fill_0 {α : Type} (g old : Nat → α) : (fun k => if k < 0 then g k else old k) = old := by
  funext k
  rw [if_neg (by omega)]
def m_s1 (X c : Nat) (T : Tn) (μ : Mm) : Mm := ms_A (ms_A (ms_P μ (X + 58) 7 (some c)) (X + 64) (fun k => if k < T 0 3 then nI (T 7 k) else mm_I μ (X + 64) k)) (X + 65) (fun k => if k < T 0 2 then nI (bm (fun p => p == T 4 k || p == T 5 k) 8) else mm_I μ (X + 65) k)
def m_st (X c : Nat) (T : Tn) (μ : Mm) : Mm := ms_A (ms_A (ms_A (m_s1 X c T μ) (X + 59) (fun day => if day < 28 then nI (bm (fun p => dl T p day) 8) else mm_I μ (X + 59) day)) (X + 60) (fun day => if day < 28 then nI (bm (fun k => decide (k < T 0 3) && T 8 k == day) 8) else mm_I μ (X + 60) day)) (X + 61) (fun day => if day < 28 then nI (bm (fun k => decide (k < T 0 2) && day % T 6 k == 0) 8) else mm_I μ (X + 61) day)
theorem e_setTown {X c : Nat} {T : Tn} {μ : Mm} (h : Shp X (mm_K μ) (mm_P (ms_P μ (X + 58) 7 (some c)))) (hc : TwS c (mm_K μ) (mm_P (ms_P μ (X + 58) 7 (some c)))) (hcX : c + 18 ≤ X + 57) (ht : CTn c T μ) (ok : OkT T) : f_X4_setTown (X + 58) c μ = some (m_st X c T μ) := by
  have hn0 := ok.1.1
  have hnp := ok.1.2.2.2.1
  have hnt := ok.1.2.2.1
  have e28 : (28 : Int32) = nI 28 := rfl
  unfold f_X4_setTown
  rw [if_pos (by rw [sk_58 h]), e_pfP (by rw [sk_58 h]), ob]
  have hS0 : ∀ ν : Mm, mm_K ν = mm_K μ → mm_P ν = mm_P (ms_P μ (X + 58) 7 (some c)) → Sh X ν := fun ν h1 h2 => by show Shp X (mm_K ν) (mm_P ν); rw [h1, h2]; exact h
  have hC0 : ∀ ν : Mm, mm_K ν = mm_K μ → mm_P ν = mm_P (ms_P μ (X + 58) 7 (some c)) → TwS c (mm_K ν) (mm_P ν) := fun ν h1 h2 => by rw [h1, h2]; exact hc
  have hP0 : ∀ ν : Mm, mm_K ν = mm_K μ → mm_P ν = mm_P (ms_P μ (X + 58) 7 (some c)) → mm_P ν (X + 58) 7 = some c := fun ν h1 h2 => by rw [h2, rP, if_pos ⟨rfl, rfl⟩]
  have hG0 : ∀ ν : Mm, mm_K ν = mm_K μ → mm_P ν = mm_P (ms_P μ (X + 58) 7 (some c)) → gf_P 5 7 (X + 58) ν = some c := fun ν h1 h2 => e_gfP (by rw [h1, sk_58 h]) (hP0 ν h1 h2)
  refine (whl_b (T 0 3) (fun i => (nI i, ms_A (ms_P μ (X + 58) 7 (some c)) (X + 64) (fun k => if k < i then nI (T 7 k) else mm_I μ (X + 64) k))) (b := ms_A (ms_P μ (X + 58) 7 (some c)) (X + 64) (fun k => if k < T 0 3 then nI (T 7 k) else mm_I μ (X + 64) k)) ?_ (fun i hi => ?_) ?_).trans ?_
  · rw [fill_0]
    have := sA_id (ms_P μ (X + 58) 7 (some c)) (X + 64)
    rw [iP] at this
    rw [this]; rfl
  · have h1 : CTn c T (ms_A (ms_P μ (X + 58) 7 (some c)) (X + 64) (fun k => if k < i then nI (T 7 k) else mm_I μ (X + 64) k)) := ctn_x (fun q h1 h2 => by rw [rA, if_neg (by omega)]; rfl) ht
    generalize hν : ms_A (ms_P μ (X + 58) 7 (some c)) (X + 64) (fun k => if k < i then nI (T 7 k) else mm_I μ (X + 64) k) = ν at h1 ⊢
    have k1 : mm_K ν = mm_K μ := by rw [← hν]; rfl
    have k2 : mm_P ν = mm_P (ms_P μ (X + 58) 7 (some c)) := by rw [← hν]; rfl
    simp only [f_X4_setTown_L7, hG0 ν k1 k2, tc_p5 (hC0 ν k1 k2), ct_s8 (hC0 ν k1 k2) h1, ob, rp_58_5 (hS0 ν k1 k2), ln_64 (hS0 ν k1 k2), ct_8_0 (hC0 ν k1 k2) h1 ok hi, wa_64 (hS0 ν k1 k2) _ (by omega : i < 8), nI_1]
    rw [if_neg (by rw [nI_le_i (by omega) (by omega)]; omega), if_neg (by rw [nI_le_i (by omega) (by omega)]; omega), ← hν, sA_I, u1_fill (fun k => nI (T 7 k))]
  · have h1 : CTn c T (ms_A (ms_P μ (X + 58) 7 (some c)) (X + 64) (fun k => if k < T 0 3 then nI (T 7 k) else mm_I μ (X + 64) k)) := ctn_x (fun q h1 h2 => by rw [rA, if_neg (by omega)]; rfl) ht
    generalize hν : ms_A (ms_P μ (X + 58) 7 (some c)) (X + 64) (fun k => if k < T 0 3 then nI (T 7 k) else mm_I μ (X + 64) k) = ν at h1 ⊢
    have k1 : mm_K ν = mm_K μ := by rw [← hν]; rfl
    have k2 : mm_P ν = mm_P (ms_P μ (X + 58) 7 (some c)) := by rw [← hν]; rfl
    simp only [f_X4_setTown_L7, hG0 ν k1 k2, tc_p5 (hC0 ν k1 k2), ct_s8 (hC0 ν k1 k2) h1, ob]
    rw [if_pos (nI_le (Nat.le_refl _) (by omega))]
  · unfold f_X4_setTown_J54
    refine (whl_b (T 0 2) (fun i => (nI i, ms_A (ms_A (ms_P μ (X + 58) 7 (some c)) (X + 64) (fun k => if k < T 0 3 then nI (T 7 k) else mm_I μ (X + 64) k)) (X + 65) (fun k => if k < i then nI (bm (fun p => p == T 4 k || p == T 5 k) 8) else mm_I μ (X + 65) k))) (b := m_s1 X c T μ) ?_ (fun i hi => ?_) ?_).trans ?_
    · rw [fill_0]
      have := sA_id (ms_A (ms_P μ (X + 58) 7 (some c)) (X + 64) (fun k => if k < T 0 3 then nI (T 7 k) else mm_I μ (X + 64) k)) (X + 65)
      rw [rA, if_neg (by omega), iP] at this
      rw [this]; rfl
    · have h1 : CTn c T (ms_A (ms_A (ms_P μ (X + 58) 7 (some c)) (X + 64) (fun k => if k < T 0 3 then nI (T 7 k) else mm_I μ (X + 64) k)) (X + 65) (fun k => if k < i then nI (bm (fun p => p == T 4 k || p == T 5 k) 8) else mm_I μ (X + 65) k)) := ctn_x (fun q h1 h2 => by rw [rA, if_neg (by omega), rA, if_neg (by omega)]; rfl) ht
      have hw := ok.2.2.2.2.2.1 i hi
      generalize hν : ms_A (ms_A (ms_P μ (X + 58) 7 (some c)) (X + 64) (fun k => if k < T 0 3 then nI (T 7 k) else mm_I μ (X + 64) k)) (X + 65) (fun k => if k < i then nI (bm (fun p => p == T 4 k || p == T 5 k) 8) else mm_I μ (X + 65) k) = ν at h1 ⊢
      have k1 : mm_K ν = mm_K μ := by rw [← hν]; rfl
      have k2 : mm_P ν = mm_P (ms_P μ (X + 58) 7 (some c)) := by rw [← hν]; rfl
      simp only [f_X4_setTown_L56, hG0 ν k1 k2, tc_p4 (hC0 ν k1 k2), ct_s6 (hC0 ν k1 k2) h1, ob, rp_58_6 (hS0 ν k1 k2), ln_65 (hS0 ν k1 k2), ct_6_0 (hC0 ν k1 k2) h1 ok hi, ct_6_1 (hC0 ν k1 k2) h1 ok hi, wa_65 (hS0 ν k1 k2) _ (by omega : i < 8), nI_1]
      rw [if_neg (by rw [nI_le_i (by omega) (by omega)]; omega), if_neg (by rw [nI_le_i (by omega) (by omega)]; omega), ← hν, sA_I, u1_fill' (fun k => nI (bm (fun p => p == T 4 k || p == T 5 k) 8))]
      rw [b_one (by omega), b_one (by omega), nI_or, bm_1 (by omega : T 4 i < 8), bm_1 (by omega : T 5 i < 8), bm_or]
    · have h1 : CTn c T (m_s1 X c T μ) := ctn_x (fun q h1 h2 => by unfold m_s1; rw [rA, if_neg (by omega), rA, if_neg (by omega)]; rfl) ht
      show f_X4_setTown_L56 (X + 58) (nI (T 0 2), m_s1 X c T μ) = _
      have k1 : mm_K (m_s1 X c T μ) = mm_K μ := rfl
      have k2 : mm_P (m_s1 X c T μ) = mm_P (ms_P μ (X + 58) 7 (some c)) := rfl
      simp only [f_X4_setTown_L56, hG0 _ k1 k2, tc_p4 (hC0 _ k1 k2), ct_s6 (hC0 _ k1 k2) h1, ob]
      rw [if_pos (nI_le (Nat.le_refl _) (by omega))]
    · unfold f_X4_setTown_J120
      have k1 : mm_K (m_s1 X c T μ) = mm_K μ := rfl
      have k2 : mm_P (m_s1 X c T μ) = mm_P (ms_P μ (X + 58) 7 (some c)) := rfl
      have h1 : CTn c T (m_s1 X c T μ) := ctn_x (fun q h1 h2 => by unfold m_s1; rw [rA, if_neg (by omega), rA, if_neg (by omega)]; rfl) ht
      have r59 : mm_I (m_s1 X c T μ) (X + 59) = mm_I μ (X + 59) := by unfold m_s1; rw [rA, if_neg (by omega), rA, if_neg (by omega)]; rfl
      have r60 : mm_I (m_s1 X c T μ) (X + 60) = mm_I μ (X + 60) := by unfold m_s1; rw [rA, if_neg (by omega), rA, if_neg (by omega)]; rfl
      have r61 : mm_I (m_s1 X c T μ) (X + 61) = mm_I μ (X + 61) := by unfold m_s1; rw [rA, if_neg (by omega), rA, if_neg (by omega)]; rfl
      unfold m_st
      rw [← r59, ← r60, ← r61]
      generalize m_s1 X c T μ = α at k1 k2 h1
      refine whl_b 28 (fun i => (nI i, ms_A (ms_A (ms_A α (X + 59) (fun day => if day < i then nI (bm (fun p => dl T p day) 8) else mm_I α (X + 59) day)) (X + 60) (fun day => if day < i then nI (bm (fun k => decide (k < T 0 3) && T 8 k == day) 8) else mm_I α (X + 60) day)) (X + 61) (fun day => if day < i then nI (bm (fun k => decide (k < T 0 2) && day % T 6 k == 0) 8) else mm_I α (X + 61) day))) ?_ (fun i hi => ?_) ?_
      · rw [fill_0, fill_0, fill_0, sA_id]
        have e1 := sA_id α (X + 60)
        rw [e1, sA_id]
        rfl
      · have hx : ∀ f g k, CTn c T (ms_A (ms_A (ms_A α (X + 59) f) (X + 60) g) (X + 61) k) := fun f g k => ctn_x (fun q h1 h2 => by rw [rA, if_neg (by omega), rA, if_neg (by omega), rA, if_neg (by omega)]) h1
        have kk : ∀ f g k, mm_K (ms_A (ms_A (ms_A α (X + 59) f) (X + 60) g) (X + 61) k) = mm_K μ := fun f g k => k1
        have kp : ∀ f g k, mm_P (ms_A (ms_A (ms_A α (X + 59) f) (X + 60) g) (X + 61) k) = mm_P (ms_P μ (X + 58) 7 (some c)) := fun f g k => k2
        simp only [f_X4_setTown_L122]
        rw [if_neg (by rw [e28, nI_le_i (by omega) (by omega)]; omega), rp_58_0 (hS0 _ (kk _ _ _) (kp _ _ _)), ob, hG0 _ (kk _ _ _) (kp _ _ _), ob, e_dullOn (hC0 _ (kk _ _ _) (kp _ _ _)) (hx _ _ _) ok (by omega), ob, wa_59 (hS0 _ (kk _ _ _) (kp _ _ _)) _ hi, ob, sI_A, sA_3 _ (by omega) (by omega)]
        rw [rA, if_neg (by omega), rA, if_neg (by omega), rA, if_pos rfl, u1_fill (fun day => nI (bm (fun p => dl T p day) 8))]
        rw [rp_58_1 (hS0 _ (kk _ _ _) (kp _ _ _)), ob, e_napsOf (hS0 _ (kk _ _ _) (kp _ _ _)) (hP0 _ (kk _ _ _) (kp _ _ _)) (hC0 _ (kk _ _ _) (kp _ _ _)) (hx _ _ _) ok hi, ob, wa_60 (hS0 _ (kk _ _ _) (kp _ _ _)) _ hi, ob, sI_A, sA_2 _ (by omega)]
        rw [rA, if_neg (by omega), rA, if_pos rfl, u1_fill (fun day => nI (bm (fun k => decide (k < T 0 3) && T 8 k == day) 8))]
        rw [rp_58_2 (hS0 _ (kk _ _ _) (kp _ _ _)), ob, e_talksOf (hS0 _ (kk _ _ _) (kp _ _ _)) (hP0 _ (kk _ _ _) (kp _ _ _)) (hC0 _ (kk _ _ _) (kp _ _ _)) (hx _ _ _) ok hi, ob, wa_61 (hS0 _ (kk _ _ _) (kp _ _ _)) _ hi, ob, sA_I, u1_fill (fun day => nI (bm (fun k => decide (k < T 0 2) && day % T 6 k == 0) 8)), ob, nI_1]
      · simp only [f_X4_setTown_L122]
        rw [if_pos (by decide)]
theorem m_st_T {X c : Nat} {T : Tn} {μ : Mm} : SpT X c T (m_st X c T μ) := by
  unfold SpT
  have e58 : mm_P (m_st X c T μ) (X + 58) 7 = some c := by show mm_P (ms_P μ (X + 58) 7 (some c)) (X + 58) 7 = _; rw [rP, if_pos ⟨rfl, rfl⟩]
  have a1 : mm_I (m_st X c T μ) (X + 59) = fun day => if day < 28 then nI (bm (fun p => dl T p day) 8) else mm_I μ (X + 59) day := by unfold m_st; rw [rA, if_neg (by omega), rA, if_neg (by omega), rA, if_pos rfl]
  have a2 : mm_I (m_st X c T μ) (X + 60) = fun day => if day < 28 then nI (bm (fun k => decide (k < T 0 3) && T 8 k == day) 8) else mm_I μ (X + 60) day := by unfold m_st; rw [rA, if_neg (by omega), rA, if_pos rfl]
  have a3 : mm_I (m_st X c T μ) (X + 61) = fun day => if day < 28 then nI (bm (fun k => decide (k < T 0 2) && day % T 6 k == 0) 8) else mm_I μ (X + 61) day := by unfold m_st; rw [rA, if_pos rfl]
  have a4 : mm_I (m_st X c T μ) (X + 64) = fun k => if k < T 0 3 then nI (T 7 k) else mm_I μ (X + 64) k := by unfold m_st m_s1; rw [rA, if_neg (by omega), rA, if_neg (by omega), rA, if_neg (by omega), rA, if_neg (by omega), rA, if_pos rfl]
  have a5 : mm_I (m_st X c T μ) (X + 65) = fun k => if k < T 0 2 then nI (bm (fun p => p == T 4 k || p == T 5 k) 8) else mm_I μ (X + 65) k := by unfold m_st m_s1; rw [rA, if_neg (by omega), rA, if_neg (by omega), rA, if_neg (by omega), rA, if_pos rfl]
  refine ⟨e58, fun day hd => ?_, fun k hk => ?_, fun k hk => ?_⟩
  · rw [a1, a2, a3]
    exact ⟨if_pos hd, if_pos hd, if_pos hd⟩
  · rw [a4]; exact if_pos hk
  · rw [a5]; exact if_pos hk
