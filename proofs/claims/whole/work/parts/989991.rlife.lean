/-! ===== the model's census: lives by any turning ===== -/
/-- what lives and counts may change -/
def FrK (X : Nat) (μ ν : Mm) : Prop := mm_P ν = mm_P μ ∧ tl ν = tl μ ∧ (∀ q, q ≠ X + 124 → mm_L ν q = mm_L μ q) ∧ (∀ q, q ≠ X + 90 → q ≠ X + 111 → q ≠ X + 112 → q ≠ X + 125 → mm_I ν q = mm_I μ q) ∧ ∀ k, k < 40 ∨ 42 < k → mm_I ν (X + 90) k = mm_I μ (X + 90) k
/-- lives alone -/
def FrJ (X : Nat) (μ ν : Mm) : Prop := FrK X μ ν ∧ mm_L ν (X + 124) = mm_L μ (X + 124) ∧ mm_I ν (X + 125) = mm_I μ (X + 125)
section LIFE
variable {X : Nat} {s : Sv} {μ ν π ρ : Mm}
theorem FrK_r : FrK X μ μ := ⟨rfl, rfl, fun _ _ => rfl, fun _ _ _ _ _ => rfl, fun _ _ => rfl⟩
theorem FrK_t (h : FrK X μ ν) (h' : FrK X ν ρ) : FrK X μ ρ := ⟨h'.1.trans h.1, h'.2.1.trans h.2.1, fun q a => (h'.2.2.1 q a).trans (h.2.2.1 q a), fun q a b c d => (h'.2.2.2.1 q a b c d).trans (h.2.2.2.1 q a b c d), fun k a => (h'.2.2.2.2 k a).trans (h.2.2.2.2 k a)⟩
theorem FrJ_r : FrJ X μ μ := ⟨FrK_r, rfl, rfl⟩
theorem FrJ_t (h : FrJ X μ ν) (h' : FrJ X ν ρ) : FrJ X μ ρ := ⟨FrK_t h.1 h'.1, h'.2.1.trans h.2.1, h'.2.2.trans h.2.2⟩
theorem IR_k (h : IR X s μ) (f : FrK X μ ν) : IR X s ν ∧ ChM X μ ν := by
  refine ⟨IR_scr (sh_x f.1 f.2.1 h.1) (fun k hk => f.2.2.2.2 k (by unfold fdM at hk; omega)) (by rw [f.2.2.1 _ (by omega)]) (fun q _ h2 h3 => f.2.2.2.1 q h3 (by unfold scM at h2; omega) (by unfold scM at h2; omega) (by unfold scM at h2; omega)) (fun q _ h2 _ => f.2.2.1 q (by unfold scM at h2; omega)) h, fun q hq => ?_, fun q hq => ?_, f.1, f.2.1⟩
  · unfold inM at hq
    exact f.2.2.2.1 q (by omega) (by omega) (by omega) (by omega)
  · unfold inM at hq
    exact f.2.2.1 q (by omega)
theorem FrJ_kn {κ : Ks} {a : Nat → Int32} (ho : ∀ k, k < 40 ∨ 42 < k → κ.2 k = mm_I μ (X + 90) k) : FrJ X μ (m_kn X κ a μ) := ⟨⟨rfl, rfl, fun _ _ => rfl, fun q h1 h2 h3 _ => kn_o h1 h2 h3, fun k hk => by rw [kn_90]; exact ho k hk⟩, rfl, kn_o (by omega) (by omega) (by omega)⟩
/-- behind j days -/
def KR (X : Nat) (T : Tn) (d : Nat → Nat) (ν : Mm) (j : Nat) (π : Mm) : Prop := ∃ a, π = m_kn X (k_run T d w7 u0 (k_0, o_fg (mm_I ν (X + 90))) j) a ν
/-- ahead of the j-th night -/
def KD (X : Nat) (T : Tn) (d : Nat → Nat) (ν : Mm) (j : Nat) (π : Mm) : Prop := ∃ a, π = m_kn X (k_day T d w7 (fun q => dl T q j || u0 q) j (k_run T d w7 u0 (k_0, o_fg (mm_I ν (X + 90))) j)) a ν
theorem KR_j {T : Tn} {d : Nat → Nat} {j : Nat} (h : KR X T d ν j π) : FrJ X ν π := by
  obtain ⟨a, rfl⟩ := h
  exact FrJ_kn (fun k hk => by rw [k_run_o hk]; exact fg_o hk)
theorem KD_j {T : Tn} {d : Nat → Nat} {j : Nat} (h : KD X T d ν j π) : FrJ X ν π := by
  obtain ⟨a, rfl⟩ := h
  exact FrJ_kn (fun k hk => by rw [k_day_o hk, k_run_o hk]; exact fg_o hk)
theorem KR_k {T : Tn} {d : Nat → Nat} {j p : Nat} (ok : OkT T) (od : OkD (T 0 0) d) (h : KR X T d ν j π) (hp : p < 8) : mm_I π (X + 111) p = nI (bm (fun f => decide (f < T 0 1) && c_beh T d w7 u0 f j p) 12) := by
  obtain ⟨a, rfl⟩ := h
  rw [kn_k hp]
  congr 1
  exact bm_x (fun f _ => k_run_1 ok od j p f)
theorem KD_k {T : Tn} {d : Nat → Nat} {j p : Nat} (ok : OkT T) (od : OkD (T 0 0) d) (h : KD X T d ν j π) (hp : p < 8) : mm_I π (X + 111) p = nI (bm (fun f => decide (f < T 0 1) && c_ahd T d w7 u0 f j p) 12) := by
  obtain ⟨a, rfl⟩ := h
  rw [kn_k hp]
  congr 1
  exact bm_x (fun f _ => k_ahd_1 ok od j p f)
theorem r_fgt {T : Tn} {d : Nat → Nat} (h : Sh X ν) : ∃ π, f_X11_forget (X + 90) ν = some π ∧ KR X T d ν 0 π := ⟨_, e_forget h, _, rfl⟩
theorem u37 (h : IR X s ν) : mm_I ν (X + 90) 37 = nI (bm u0 8) := by rw [nz]; exact h.2.1.2.2.2.2.1
theorem q_day {t j : Nat} (h : IR X s ν) (ok : OkT s.1) (ht : t < (EN s.1).length) (hj : j < 28) (hk : KR X s.1 (dr s.1 t) ν j π) : ∃ π', f_X11_byDay (X + 90) (lN (rwT s.1 t)) (nI j) 7 π = some π' ∧ KD X s.1 (dr s.1 t) ν j π' := by
  obtain ⟨a, rfl⟩ := hk
  exact ⟨_, e_byDayR (v := 7) (us := u0) h.1 h.2.1.1 ok (dr_ok ok ht) (dr_R ok ht) (by rw [k_run_o (by omega)]; exact (fg_o (by omega)).trans (u37 h)) hj (by decide), a, rfl⟩
theorem q_ngt {t j : Nat} (h : IR X s ν) (ok : OkT s.1) (ht : t < (EN s.1).length) (hj : j < 28) (hk : KD X s.1 (dr s.1 t) ν j π) : ∃ π', f_X11_byNight (X + 90) (lN (rwT s.1 t)) (nI j) 7 π = some π' ∧ KR X s.1 (dr s.1 t) ν (j + 1) π' := by
  obtain ⟨a, rfl⟩ := hk
  exact ⟨_, e_byNightR (v := 7) (us := u0) h.1 h.2.1.1 ok (dr_ok ok ht) (dr_R ok ht) (by rw [k_day_o (by omega), k_run_o (by omega)]; exact (fg_o (by omega)).trans (u37 h)) hj (by decide), _, rfl⟩
theorem q_live {t day : Nat} (h : IR X s ν) (ok : OkT s.1) (ht : t < (EN s.1).length) (hd : day < 28) : ∃ π, f_X11_live (X + 90) (lN (rwT s.1 t)) (nI day) 7 1 ν = some π ∧ KR X s.1 (dr s.1 t) ν (day + 1) π := by
  obtain ⟨a, hl⟩ := e_live (v := 7) (us := u0) h.1 h.2.1.1 ok (dr_ok ok ht) (dr_R ok ht) (u37 h) hd (by decide) true
  exact ⟨_, hl, a, rfl⟩
/-! acts -/
theorem r_knewAt {T : Tn} {A : Nat → Nat → Nat} {k st : Nat} (h : Sh X μ) (oa : OkA T A) (ra : Ra X A μ) (hk : k < A 8 0) (hs : st ≤ 999) : f_X11_knewAt (X + 90) (nI k) (nI st) μ = some (nI (knewA A k st (A 8 1))) := by
  obtain ⟨⟨c1, c2, c3⟩, c4, c5⟩ := ra
  have o1 := oa.1
  unfold f_X11_knewAt
  rw [if_pos (by rw [mk_90 h]), rp_90_53 h, ob, ra_120 h (by omega), ob, (c4 k hk).2.2.2.2]
  have key : whl (f_X11_knewAt_L10 (X + 90) (nI k) (nI st) μ) (nI (A 4 k), (0 : Int32)) = some (nI (knewA A k st (A 8 1))) := by
    refine whl_c (A 8 1) (fun m => (nI (knewA A k st m), nI m)) rfl (fun m hm => ?_) ?_
    · obtain ⟨r1, r2, r3⟩ := oa.2.2.2.1 m hm
      obtain ⟨d1, d2, d3⟩ := c5 m hm
      simp only [f_X11_knewAt_L10, f_X11_knewAt_J49]
      rw [rf_90 h, ob, c2, if_neg (by rw [nI_le_i (by omega) (by omega)]; omega), rp_90_55 h, ob, ra_122 h (by omega), ob, d2, rp_90_54 h, ob, ra_121 h (by omega), ob, d1]
      simp only [rp_90_56 h, ra_123 (i := m) h (by omega), d3, ob, nI_1]
      have ek : knewA A k st (m + 1) = if A 6 m = k ∧ A 5 m ≤ st then A 7 m else knewA A k st m := rfl
      rw [ek]
      by_cases y : A 6 m = k
      · rw [if_pos (by rw [y])]
        by_cases z : st < A 5 m
        · rw [if_pos (by rw [nI_lt_i (by omega) (by omega)]; exact z), if_neg (by omega)]
        · rw [if_neg (by rw [nI_lt_i (by omega) (by omega)]; exact z), if_pos ⟨y, by omega⟩]
      · rw [if_neg (by rw [nI_eq_i (by omega) (by omega)]; exact y), if_neg (fun w => y w.1)]
    · simp only [f_X11_knewAt_L10]
      rw [rf_90 h, ob, c2, if_pos (nI_le (Nat.le_refl _) (by omega))]
  rw [key, ob]
/-- an act that isn't as told -/
def badA (T : Tn) (A : Nat → Nat → Nat) (st : Nat) (d : Nat → Nat) (k : Nat) : Bool := !((c_ahd T d w7 u0 (A 3 k) (A 1 k) (A 2 k)).toNat == knewA A k st (A 8 1))
def soA (T : Tn) (A : Nat → Nat → Nat) (st : Nat) (d : Nat → Nat) (day : Nat) : Bool := !anyb (fun k => (A 1 k == day && decide (A 0 k ≤ st)) && badA T A st d k) (A 8 0)
theorem r_isSo {T : Tn} {A : Nat → Nat → Nat} {st day : Nat} {d : Nat → Nat} (h : Sh X π) (ok : OkT T) (od : OkD (T 0 0) d) (oa : OkA T A) (ra : Ra X A π) (hs : st ≤ 999) (hd : day < 28) (hk : KD X T d ν day π) : f_X11_isSo (X + 90) (nI day) (nI st) π = some (nI (soA T A st d day).toNat) := by
  have ra0 := ra
  obtain ⟨⟨c1, c2, c3⟩, c4, c5⟩ := ra
  have o1 := oa.1
  have n8 := ok.1.1
  have n12 := ok.1.2.1
  unfold f_X11_isSo
  rw [if_pos (by rw [mk_90 h])]
  have hst : ∀ k, k < A 8 0 → f_X11_isSo_L2 (X + 90) (nI day) (nI st) π (nI k) = if (A 1 k == day && decide (A 0 k ≤ st)) && badA T A st d k then some (.inr (.inl ())) else some (.inl (nI (k + 1))) := by
    intro k hk'
    obtain ⟨a1, a2, a3, a4, a5⟩ := oa.2.1 k hk'
    obtain ⟨e0, e1, e2, e3, e4⟩ := c4 k hk'
    have kk := KD_k ok od hk (p := A 2 k) (by omega)
    have k1 := knewA_1 oa (k := k) (st := st) hk' (A 8 1) (Nat.le_refl _)
    simp only [f_X11_isSo_L2, f_X11_isSo_J61]
    rw [rf_90 h, ob, c1, if_neg (by rw [nI_le_i (by omega) (by omega)]; omega), rp_90_50 h, ob, ra_117 h (by omega), ob, e1, rp_90_49 h, ob, ra_116 h (by omega), ob, e0, ob, nI_1]
    by_cases y : A 1 k = day
    · have yb : (A 1 k == day) = true := by simpa using y
      rw [if_pos (by rw [y]), yb, Bool.true_and]
      by_cases z : st < A 0 k
      · rw [if_pos (by rw [nI_lt_i (by omega) (by omega)]; exact z), decide_eq_false (by omega), Bool.false_and, if_neg (by decide)]
      · rw [if_neg (by rw [nI_lt_i (by omega) (by omega)]; exact z), decide_eq_true (show A 0 k ≤ st by omega), Bool.true_and, rp_90_35 h, ob, rp_90_51 h, ob, ra_118 h (by omega), ob, e2, ra_111 h (by omega), ob, kk, rp_90_52 h, ob, ra_119 h (by omega), ob, e3, r_knewAt h oa ra0 hk' hs, ob, bmb (by omega) (by decide), decide_eq_true a4, Bool.true_and, ← y]
        unfold badA
        by_cases w : (c_ahd T d w7 u0 (A 3 k) (A 1 k) (A 2 k)).toNat = knewA A k st (A 8 1)
        · have wb : ((c_ahd T d w7 u0 (A 3 k) (A 1 k) (A 2 k)).toNat == knewA A k st (A 8 1)) = true := by simpa using w
          rw [if_pos (by rw [w]), wb]; rfl
        · have wb : ((c_ahd T d w7 u0 (A 3 k) (A 1 k) (A 2 k)).toNat == knewA A k st (A 8 1)) = false := by simpa using w
          rw [if_neg (by rw [nI_eq_i (by have := Bool.toNat_le (c_ahd T d w7 u0 (A 3 k) (A 1 k) (A 2 k)); omega) (by omega)]; exact w), wb]; rfl
    · have yb : (A 1 k == day) = false := by simpa using y
      rw [if_neg (by rw [nI_eq_i (by omega) (by omega)]; exact y), yb, Bool.false_and, Bool.false_and, if_neg (by decide)]
  refine (whl_fb (A 8 0) (fun k => nI k) (fun k => (A 1 k == day && decide (A 0 k ≤ st)) && badA T A st d k) (fun k => .inl ()) (b := .inr ()) rfl (fun k hk hq => ?_) (fun k hk hq => ?_) ?_).trans ?_
  · rw [hst k hk, hq, if_neg (by decide)]
  · rw [hst k hk, hq, if_pos rfl]
  · simp only [f_X11_isSo_L2]
    rw [rf_90 h, ob, c1, if_pos (nI_le (Nat.le_refl _) (by omega))]
  · unfold soA
    cases e3 : ff (fun k => (A 1 k == day && decide (A 0 k ≤ st)) && badA T A st d k) (A 8 0) with
    | none => rw [anyb_f.mpr (ff_none.mp e3)]; rfl
    | some j =>
      obtain ⟨g1, g2, -⟩ := ff_some.mp e3
      rw [anyb_t.mpr ⟨j, g1, g2⟩]; rfl
/-- one more than the last day on which there is an act known at the step -/
def lsd (A : Nat → Nat → Nat) (st : Nat) : Nat → Nat
  | 0 => 0
  | k + 1 => if A 0 k ≤ st ∧ lsd A st k ≤ A 1 k then A 1 k + 1 else lsd A st k
def mI (l : Nat) : Int32 := if l = 0 then -1 else nI (l - 1)
theorem mI_le {a l : Nat} (ha : a < 1000) (hl : l < 1000) : (nI a ≤ mI l) ↔ a + 1 ≤ l := by
  unfold mI
  by_cases z : l = 0
  · rw [if_pos z, z]
    constructor
    · intro y
      exfalso
      have := Int32.le_iff_toInt_le.mp y
      rw [nI_toInt (by omega)] at this
      have e : (-1 : Int32).toInt = -1 := rfl
      omega
    · omega
  · rw [if_neg z, nI_le_i (by omega) (by omega)]
    omega
theorem mI_lt {a l : Nat} (ha : a < 1000) (hl : l < 1000) : (mI l < nI a) ↔ l ≤ a := by
  unfold mI
  by_cases z : l = 0
  · rw [if_pos z, z]
    constructor
    · intro _; exact Nat.zero_le _
    · intro _
      apply Int32.lt_iff_toInt_lt.mpr
      rw [nI_toInt (by omega)]
      have e : (-1 : Int32).toInt = -1 := rfl
      omega
  · rw [if_neg z, nI_lt_i (by omega) (by omega)]
    omega
theorem lsd_b {T : Tn} {A : Nat → Nat → Nat} {st : Nat} (oa : OkA T A) : ∀ n, n ≤ A 8 0 → lsd A st n ≤ 28 ∧ ∀ k, k < n → A 0 k ≤ st → A 1 k < lsd A st n := by
  intro n
  induction n with
  | zero => intro _; exact ⟨Nat.zero_le _, fun k hk => by omega⟩
  | succ n ih =>
    intro hn
    obtain ⟨i1, i2⟩ := ih (by omega)
    have a := oa.2.1 n (by omega)
    have e : lsd A st (n + 1) = if A 0 n ≤ st ∧ lsd A st n ≤ A 1 n then A 1 n + 1 else lsd A st n := rfl
    rw [e]
    by_cases z : A 0 n ≤ st ∧ lsd A st n ≤ A 1 n
    · rw [if_pos z]
      refine ⟨by omega, fun k hk hs => ?_⟩
      by_cases w : k = n
      · rw [w]; omega
      · have := i2 k (by omega) hs; omega
    · rw [if_neg z]
      refine ⟨i1, fun k hk hs => ?_⟩
      by_cases w : k = n
      · rw [w] at hs ⊢
        omega
      · exact i2 k (by omega) hs
theorem r_fits {st t : Nat} (h : IR X s μ) (ok : OkT s.1) (oa : OkA s.1 s.2.2.2.2.2.1) (ht : t < (EN s.1).length) (hs : st ≤ 999) : ∃ π, f_X11_fits (X + 90) (lN (rwT s.1 t)) (nI st) μ = some (nI (fits s.1 s.2.2.2.2.2.1 st t).toNat, π) ∧ FrJ X μ π := by
  have h1 := h.1
  have od := dr_ok ok ht
  have ra := h.2.2.2.2.1
  have ra0 := ra
  obtain ⟨⟨c1, c2, c3⟩, c4, c5⟩ := ra
  have o1 := oa.1
  obtain ⟨l28, lin⟩ := lsd_b (st := st) oa _ (Nat.le_refl _)
  unfold f_X11_fits
  have key : whl (f_X11_fits_L6 (X + 90) (lN (rwT s.1 t)) (nI st) μ) ((-1 : Int32), (0 : Int32)) = some (mI (lsd s.2.2.2.2.2.1 st (s.2.2.2.2.2.1 8 0))) := by
    refine whl_c (s.2.2.2.2.2.1 8 0) (fun k => (mI (lsd s.2.2.2.2.2.1 st k), nI k)) rfl (fun k hk => ?_) ?_
    · obtain ⟨a1, a2, a3, a4, a5⟩ := oa.2.1 k hk
      obtain ⟨e0, e1, e2, e3, e4⟩ := c4 k hk
      have lb := (lsd_b (st := st) oa k (by omega)).1
      simp only [f_X11_fits_L6, f_X11_fits_J47]
      rw [rf_90 h1, ob, c1, if_neg (by rw [nI_le_i (by omega) (by omega)]; omega), rp_90_49 h1, ob, ra_116 h1 (by omega), ob, e0]
      simp only [rp_90_50 h1, ra_117 (i := k) h1 (by omega), e1, ob, nI_1]
      have e : lsd s.2.2.2.2.2.1 st (k + 1) = if s.2.2.2.2.2.1 0 k ≤ st ∧ lsd s.2.2.2.2.2.1 st k ≤ s.2.2.2.2.2.1 1 k then s.2.2.2.2.2.1 1 k + 1 else lsd s.2.2.2.2.2.1 st k := rfl
      rw [e]
      by_cases z : st < s.2.2.2.2.2.1 0 k
      · rw [if_pos (by rw [nI_lt_i (by omega) (by omega)]; exact z), if_neg (by omega)]
      · rw [if_neg (by rw [nI_lt_i (by omega) (by omega)]; exact z)]
        by_cases w : s.2.2.2.2.2.1 1 k + 1 ≤ lsd s.2.2.2.2.2.1 st k
        · rw [if_pos ((mI_le (by omega) (by omega)).mpr w), if_neg (by omega)]
        · rw [if_neg (fun y => w ((mI_le (by omega) (by omega)).mp y)), if_pos ⟨by omega, by omega⟩]
          unfold mI
          rw [if_neg (Nat.succ_ne_zero _)]
          rfl
    · simp only [f_X11_fits_L6]
      rw [rf_90 h1, ob, c1, if_pos (nI_le (Nat.le_refl _) (by omega))]
  obtain ⟨π0, f1, f2⟩ := r_fgt (T := s.1) (d := dr s.1 t) h1
  rw [if_pos (by rw [mk_90 h1]), key, ob]
  unfold f_X11_fits_J53
  rw [f1, ob]
  have efit : fits s.1 s.2.2.2.2.2.1 st t = !anyb (fun day => !soA s.1 s.2.2.2.2.2.1 st (dr s.1 t) day) (lsd s.2.2.2.2.2.1 st (s.2.2.2.2.2.1 8 0)) := by
    unfold fits fitA
    congr 1
    cases e1 : anyb (fun day => !soA s.1 s.2.2.2.2.2.1 st (dr s.1 t) day) (lsd s.2.2.2.2.2.1 st (s.2.2.2.2.2.1 8 0)) with
    | true =>
      obtain ⟨day, d1, d2⟩ := anyb_t.mp e1
      unfold soA at d2
      rw [Bool.not_not] at d2
      obtain ⟨k, k1, k2⟩ := anyb_t.mp d2
      refine anyb_t.mpr ⟨k, k1, ?_⟩
      unfold badA at k2
      simp only [Bool.and_eq_true] at k2
      rw [k2.1.2, Bool.true_and]
      exact k2.2
    | false =>
      refine anyb_f.mpr (fun k hk => ?_)
      by_cases y : s.2.2.2.2.2.1 0 k ≤ st
      · have := anyb_f.mp e1 (s.2.2.2.2.2.1 1 k) (lin k hk y)
        unfold soA at this
        rw [Bool.not_not] at this
        have := anyb_f.mp this k hk
        unfold badA at this
        rw [decide_eq_true y] at this ⊢
        simpa using this
      · rw [decide_eq_false y, Bool.false_and]
  have loop := whl_e (body := f_X11_fits_L60 (X + 90) (lN (rwT s.1 t)) (nI st) (mI (lsd s.2.2.2.2.2.1 st (s.2.2.2.2.2.1 8 0)))) (lsd s.2.2.2.2.2.1 st (s.2.2.2.2.2.1 8 0)) (fun j (x : Int32 × Mm) => ∃ π, x = (nI j, π) ∧ KR X s.1 (dr s.1 t) μ j π ∧ ∀ j', j' < j → soA s.1 s.2.2.2.2.2.1 st (dr s.1 t) j' = true) (Q := fun r => ∃ π, sm (fun b => ((0 : Int32), b)) (fun b => ((1 : Int32), b)) r = (nI (fits s.1 s.2.2.2.2.2.1 st t).toNat, π) ∧ FrJ X μ π) (s0 := ((0 : Int32), π0)) ⟨π0, rfl, f2, fun j hj => by omega⟩ ?_ ?_
  · obtain ⟨r, q1, π, q2, q3⟩ := loop
    refine ⟨π, ?_, q3⟩
    rw [q1, ob]
    cases r with
    | inl b => exact congrArg some q2
    | inr b => exact congrArg some q2
  · rintro j x hj ⟨π, rfl, q1, q2⟩
    obtain ⟨π1, p1, p2⟩ := q_day h ok ht (by omega) q1
    have fj := KD_j p2
    have ir1 := (IR_k h fj.1).1
    have so := r_isSo (st := st) ir1.1 ok od oa ir1.2.2.2.2.1 hs (by omega) p2
    simp only [f_X11_fits_L60]
    rw [if_neg (fun y => by have := (mI_lt (by omega) (by omega)).mp y; omega), p1, ob, so, ob]
    cases es : soA s.1 s.2.2.2.2.2.1 st (dr s.1 t) j with
    | false =>
      right
      refine ⟨_, by rw [if_pos (show nI false.toNat = 0 from rfl)], π1, ?_, fj⟩
      have : anyb (fun day => !soA s.1 s.2.2.2.2.2.1 st (dr s.1 t) day) (lsd s.2.2.2.2.2.1 st (s.2.2.2.2.2.1 8 0)) = true := anyb_t.mpr ⟨j, hj, by rw [es]; rfl⟩
      rw [efit, this]
      rfl
    | true =>
      left
      obtain ⟨π2, n1, n2⟩ := q_ngt h ok ht (by omega) p2
      refine ⟨_, by rw [if_neg (show ¬ nI true.toNat = 0 by decide), n1, ob, ob, nI_1], π2, rfl, n2, fun j' hj' => ?_⟩
      by_cases w : j' = j
      · rw [w]; exact es
      · exact q2 j' (by omega)
  · rintro x ⟨π, rfl, q1, q2⟩
    refine ⟨.inr π, ?_, π, ?_, KR_j q1⟩
    · simp only [f_X11_fits_L60]
      rw [if_pos ((mI_lt (by omega) (by omega)).mpr (Nat.le_refl _))]
    · have : anyb (fun day => !soA s.1 s.2.2.2.2.2.1 st (dr s.1 t) day) (lsd s.2.2.2.2.2.1 st (s.2.2.2.2.2.1 8 0)) = false := anyb_f.mpr (fun j hj => by rw [q2 j hj]; rfl)
      rw [efit, this]
      rfl
end LIFE
