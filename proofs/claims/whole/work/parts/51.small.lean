/-! ===== small methods ===== -/
def bz (p : Prop) [Decidable p] : Int32 := if p then 1 else 0
/-- p is one of the first n numbers -/
abbrev inR (p : Int32) (n : Nat) : Prop := 0 ≤ p.toInt ∧ p.toInt < n
theorem inR_ex {p : Int32} {n : Nat} (h : inR p n) (hn : n < 2 ^ 31) : ∃ i, i < n ∧ p = nI i := by
  obtain ⟨h0, h1⟩ := h
  refine ⟨p.toInt.toNat, by omega, ?_⟩
  apply Int32.toInt_inj.mp
  rw [nI_toInt (by omega)]
  omega
theorem inR_nI {i n : Nat} (h : i < n) (hn : n < 2 ^ 31) : inR (nI i) n := nI_ix h hn
theorem lt0 (p : Int32) : (p < 0) = (p.toInt < 0) := by
  apply propext
  rw [Int32.lt_iff_toInt_lt]
  have h0 : (0 : Int32).toInt = 0 := by decide
  rw [h0]
theorem le_nI {n : Nat} (hn : n < 2 ^ 31) (p : Int32) : (nI n ≤ p) = ((n : Int) ≤ p.toInt) := by
  apply propext
  rw [Int32.le_iff_toInt_le, nI_toInt hn]
theorem lt_nI {n : Nat} (hn : n < 2 ^ 31) (p : Int32) : (nI n < p) = ((n : Int) < p.toInt) := by
  apply propext
  rw [Int32.lt_iff_toInt_lt, nI_toInt hn]
theorem nI_le' {n : Nat} (hn : n < 2 ^ 31) (p : Int32) : (p ≤ nI n) = (p.toInt ≤ n) := by
  apply propext
  rw [Int32.le_iff_toInt_le, nI_toInt hn]
theorem nI_lt' {n : Nat} (hn : n < 2 ^ 31) (p : Int32) : (p < nI n) = (p.toInt < n) := by
  apply propext
  rw [Int32.lt_iff_toInt_lt, nI_toInt hn]
theorem bz_ne {p : Prop} [Decidable p] : (bz p = 0) = ¬ p := by
  unfold bz
  by_cases h : p
  · rw [if_pos h]; apply propext; exact ⟨fun e => absurd e (by decide), fun e => absurd h e⟩
  · rw [if_neg h]; apply propext; exact ⟨fun _ => h, fun _ => rfl⟩
/-- a test of two ends, as javac lays it -/
theorem two_ends {p : Int32} {n : Nat} (hn : n < 2 ^ 31) {α : Type} (x y : α) : (if p < 0 then y else if nI n ≤ p then y else x) = if inR p n then x else y := by
  by_cases h0 : p.toInt < 0
  · rw [if_pos (by rw [lt0]; exact h0), if_neg (by unfold inR; omega)]
  · rw [if_neg (by rw [lt0]; exact h0)]
    by_cases h1 : (n : Int) ≤ p.toInt
    · rw [if_pos (by rw [le_nI hn]; exact h1), if_neg (by unfold inR; omega)]
    · rw [if_neg (by rw [le_nI hn]; exact h1), if_pos (by unfold inR; omega)]
theorem e_isPerson {c n : Nat} {p : Int32} {μ : Mm} (hK : mm_K μ c = (8, 0)) (hn : mm_I μ c 9 = nI n) (hb : n < 2 ^ 31) : f_X7_isPerson c p μ = some (bz (inR p n)) := by
  unfold f_X7_isPerson f_X7_isPerson_J16
  rw [if_pos (by rw [hK]), e_gfI (by rw [hK]), ob, hn, two_ends hb]
  unfold bz
  split <;> rfl
theorem e_isFact {c n : Nat} {p : Int32} {μ : Mm} (hK : mm_K μ c = (8, 0)) (hP : mm_P μ c 3 = some (c + 4)) (hK2 : mm_K μ (c + 4) = (3, 0)) (hn : mm_I μ (c + 4) 1 = nI n) (hb : n < 2 ^ 31) : f_X7_isFact c p μ = some (bz (inR p n)) := by
  unfold f_X7_isFact f_X7_isFact_J19
  rw [if_pos (by rw [hK]), e_gfP (by rw [hK]) hP, ob, e_gfI (by rw [hK2]), ob, hn, two_ends hb]
  unfold bz
  split <;> rfl
/-- Rows.at within its rows -/
theorem e_rowAt {q cap n r k : Nat} {μ : Mm} (hs : RwS q cap (mm_K μ) (mm_P μ)) (hn : mm_I μ q 1 = nI n) (hc : n ≤ cap) (hcap : cap ≤ 1000) (hr : r < n) (hk : k < 4) : f_X2_at q (nI r) (nI k) μ = some (mm_I μ (q + 1) (4 * r + k)) := by
  obtain ⟨h1, h2, h3⟩ := hs
  have e4 : (4 : Int32) = nI 4 := rfl
  unfold f_X2_at
  rw [if_pos (by rw [h1]), if_neg (nI_pos (by omega)), e_gfI (by rw [h1]), ob, hn, if_neg (by rw [nI_le_i (by omega) (by omega)]; omega), if_neg (nI_pos (by omega)), e4, if_pos (by rw [nI_lt_i (by omega) (by omega)]; omega), e_gfP (by rw [h1]) h2, ob, pk_mul, nI_add, e_gaI h3 (by omega) (by omega), ob, show r * 4 + k = 4 * r + k by omega]
theorem e_isFull {q cap n : Nat} {μ : Mm} (hs : RwS q cap (mm_K μ) (mm_P μ)) (hn : mm_I μ q 1 = nI n) (hc : n ≤ cap) (hcap : cap ≤ 1000) : f_X2_isFull q μ = some (bz (n = cap)) := by
  obtain ⟨h1, h2, h3⟩ := hs
  have e4 : (4 : Int32) = nI 4 := rfl
  unfold f_X2_isFull
  rw [if_pos (by rw [h1]), e_gfI (by rw [h1]), ob, hn, e_gfP (by rw [h1]) h2, ob, e_len h3 ⟨by decide, by decide⟩, ob, nI_1, e4, pk_mul]
  unfold bz
  by_cases h : n = cap
  · rw [if_pos h, if_neg (by rw [nI_le_i (by omega) (by omega)]; omega)]
  · rw [if_neg h, if_pos (by rw [nI_le_i (by omega) (by omega)]; omega)]
/-- a row is added -/
theorem e_rowAdd {q cap n : Nat} {v0 v1 v2 v3 : Int32} {μ : Mm} (hs : RwS q cap (mm_K μ) (mm_P μ)) (hn : mm_I μ q 1 = nI n) (hc : n < cap) (hcap : cap ≤ 1000) : f_X2_add q v0 v1 v2 v3 μ = some (ms_I (ms_A μ (q + 1) (u1 (u1 (u1 (u1 (mm_I μ (q + 1)) (4 * n) v0) (4 * n + 1) v1) (4 * n + 2) v2) (4 * n + 3) v3)) q 1 (nI (n + 1))) := by
  have hs0 := hs
  obtain ⟨h1, h2, h3⟩ := hs
  have e4 : (4 : Int32) = nI 4 := rfl
  have e1 : (1 : Int32) = nI 1 := rfl
  have e2 : (2 : Int32) = nI 2 := rfl
  have e3 : (3 : Int32) = nI 3 := rfl
  have hb : (bz (n = cap)) = 0 := by unfold bz; rw [if_neg (by omega)]
  unfold f_X2_add
  rw [if_pos (by rw [h1]), e_isFull hs0 hn (by omega) hcap, ob, hb, if_pos rfl, e_gfI (by rw [h1]), ob, hn, ob, e_gfP (by rw [h1]) h2, ob, e4, pk_mul, e_paI h3 (by omega) (by omega), ob, e_gfP (μ := ms_I μ (q + 1) (n * 4) v0) (by rw [kI, h1]) h2, ob, e1, nI_add, e_paI (μ := ms_I μ (q + 1) (n * 4) v0) h3 (by omega) (by omega), ob]
  rw [e_gfP (μ := ms_I (ms_I μ (q + 1) (n * 4) v0) (q + 1) (n * 4 + 1) v1) (by rw [kI, kI, h1]) h2, ob, e2, nI_add, e_paI (μ := ms_I (ms_I μ (q + 1) (n * 4) v0) (q + 1) (n * 4 + 1) v1) h3 (by omega) (by omega), ob]
  rw [e_gfP (μ := ms_I (ms_I (ms_I μ (q + 1) (n * 4) v0) (q + 1) (n * 4 + 1) v1) (q + 1) (n * 4 + 2) v2) (by rw [kI, kI, kI, h1]) h2, ob, e3, nI_add, e_paI (μ := ms_I (ms_I (ms_I μ (q + 1) (n * 4) v0) (q + 1) (n * 4 + 1) v1) (q + 1) (n * 4 + 2) v2) h3 (by omega) (by omega), ob]
  rw [sI_A μ, sA_I, sA_I, sA_I, e_gfI (by rw [kA, h1]), ob, iA, if_neg (by omega), hn, nI_add, e_pfI (by rw [kA, h1]), ob, show n * 4 = 4 * n by omega]
/-- the tape's byte -/
theorem e_tapeAt {a n : Nat} {p : Int32} {μ : Mm} (h1 : mm_K μ a = (6, 0)) (h2 : mm_P μ a 0 = some (a + 1)) (h3 : mm_K μ (a + 1) = (20, 900)) (hn : mm_I μ a 1 = nI n) (hb : n ≤ 900) : f_X5_at a p μ = some (if inR p n then mm_I μ (a + 1) p.toNatClampNeg else -1) := by
  unfold f_X5_at f_X5_at_J21
  rw [if_pos (by rw [h1]), e_gfI (by rw [h1]), ob, hn, e_gfP (by rw [h1]) h2, ob]
  rw [two_ends (by omega)]
  by_cases h : inR p n
  · rw [if_pos h, if_pos h]
    obtain ⟨i, hi, rfl⟩ := inR_ex h (by omega)
    rw [e_gaI h3 (by omega) (by omega), ob, nI_clamp (by omega)]
  · rw [if_neg h, if_neg h]
/-- in(v, low, high) of the reference -/
theorem e_in (v a b : Int32) (μ : Mm) : f_X11_in v a b μ = some (bz (a ≤ v ∧ v ≤ b)) := by
  unfold f_X11_in f_X11_in_J14 bz
  by_cases h1 : v < a
  · rw [if_pos h1, if_neg (fun h => absurd h1 (Int32.not_lt.mpr h.1))]
  · rw [if_neg h1]
    by_cases h2 : b < v
    · rw [if_pos h2, if_neg (fun h => absurd h2 (Int32.not_lt.mpr h.2))]
    · rw [if_neg h2, if_pos ⟨Int32.not_lt.mp h1, Int32.not_lt.mp h2⟩]
