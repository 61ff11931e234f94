/-! ===== Spread: days, turnings, facts, towns ===== -/
theorem c_own_f (T : Tn) (f day : Nat) (h : T 3 f ≠ day) : c_own T f day (fun _ => false) = fun _ => false := by
  funext p
  have : (T 3 f == day) = false := by simpa using h
  simp [c_own, this]
theorem c_naps_f (T : Tn) (d : Nat → Nat) (u : Nat → Bool) (day k : Nat) : c_naps T d u day (fun _ => false) k = fun _ => false := by
  induction k with
  | zero => rfl
  | succ k ih =>
    show c_nap _ _ _ _ _ (c_naps _ _ _ _ _ _) = _
    rw [ih]
    funext p
    simp [c_nap]
theorem c_tr_f (T : Tn) (day a k : Nat) : c_tr T day a (fun _ => false) k = fun _ => false := by
  induction k with
  | zero => rfl
  | succ k ih =>
    show c_talk _ _ _ (c_tr _ _ _ _ _) = _
    rw [ih]
    funext p
    simp [c_talk]
theorem c_day_f (T : Tn) (d : Nat → Nat) (w u : Nat → Bool) (f day : Nat) (h : T 3 f ≠ day) : c_day T d w u f day (fun _ => false) = fun _ => false := by
  unfold c_day c_np c_tk c_talks
  rw [c_own_f _ _ _ h, c_naps_f]
  simp only [ite_self, c_tr_f]
theorem c_ngt_f (T : Tn) (d : Nat → Nat) (w u : Nat → Bool) (f : Nat) : c_ngt T d w u f (fun _ => false) = fun _ => false := by
  unfold c_ngt
  have : c_nit d u (fun _ => false) = fun _ => false := by funext p; simp [c_nit]
  rw [this, ite_self]
theorem c_beh_f (T : Tn) (d : Nat → Nat) (w us : Nat → Bool) (f : Nat) : ∀ day, day ≤ T 3 f → c_beh T d w us f day = fun _ => false := by
  intro day
  induction day with
  | zero => intro _; rfl
  | succ day ih =>
    intro h
    unfold c_beh
    rw [ih (by omega), c_day_f _ _ _ _ _ _ (by omega), c_ngt_f]
theorem c_ahd_f (T : Tn) (d : Nat → Nat) (w us : Nat → Bool) (f day : Nat) (h : day < T 3 f) : c_ahd T d w us f day = fun _ => false := by
  unfold c_ahd
  rw [c_beh_f _ _ _ _ _ _ (by omega), c_day_f _ _ _ _ _ _ (by omega)]
theorem e_ahead {X c f day : Nat} {T : Tn} {d : Nat → Nat} {w us : Nat → Bool} {μ : Mm} (h : Sh X μ) (ok : OkT T) (od : OkD (T 0 0) d) (hT : SpT X c T μ) (hD : SpD X d μ) (hF : SpF X T f w us μ) (hf : f < T 0 1) (hd : day < 28) : f_X4_aheadOfNight (X + 58) (nI day) μ = some (nI (bm (c_ahd T d w us f day) 8)) := by
  have hff := ok.2.2.2.2.1 f hf
  have i1 := fun κ day hd => e_byDay (κ := κ) (day := day) h ok od hT hD hF hf hd
  have i2 := fun κ day hd => e_byNight (κ := κ) (day := day) h ok od hT hD hF hd
  obtain ⟨h8, -⟩ := hF
  unfold f_X4_aheadOfNight f_X4_aheadOfNight_J36
  simp only [kt_58 h, rf_58 h, ob, if_true, h8]
  by_cases e : day < T 3 f
  · rw [whl_r (b := (0 : Int32)) (by unfold f_X4_aheadOfNight_L7; rw [if_pos (nI_le (by omega) (by omega))]), ob, if_neg (by rw [nI_le_i (by omega) (by omega)]; omega), c_ahd_f _ _ _ _ _ _ e, ← bm_0]
    rfl
  · refine (whl_b (day - T 3 f) (fun i => (nI (bm (c_beh T d w us f (T 3 f + i)) 8), nI (T 3 f + i))) (b := nI (bm (c_beh T d w us f day) 8)) ?_ (fun i hi => ?_) ?_).trans ?_
    · rw [Nat.add_zero, c_beh_f _ _ _ _ _ _ (Nat.le_refl _), ← bm_0]; rfl
    · simp only [f_X4_aheadOfNight_L7]
      rw [if_neg (by rw [nI_le_i (by omega) (by omega)]; omega), if_neg (by rw [show (28 : Int32) = nI 28 from rfl, nI_le_i (by omega) (by omega)]; omega), i1 _ _ (by omega), ob, i2 _ _ (by omega), ob, ob, nI_1]
      rfl
    · simp only [f_X4_aheadOfNight_L7]
      rw [show T 3 f + (day - T 3 f) = day by omega, if_pos (nI_le (Nat.le_refl _) (by omega))]
    · rw [if_pos (nI_le (by omega) (by omega)), i1 _ _ hd]
      rfl
theorem e_behind {X c f day : Nat} {T : Tn} {d : Nat → Nat} {w us : Nat → Bool} {μ : Mm} (h : Sh X μ) (ok : OkT T) (od : OkD (T 0 0) d) (hT : SpT X c T μ) (hD : SpD X d μ) (hF : SpF X T f w us μ) (hf : f < T 0 1) (hd : day < 28) : f_X4_behind (X + 58) (nI day) μ = some (nI (bm (c_beh T d w us f (day + 1)) 8)) := by
  unfold f_X4_behind
  rw [if_pos (by rw [mk_58 h]), e_ahead h ok od hT hD hF hf hd, ob, e_byNight h ok od hT hD hF hd]
  rfl
theorem all_n {b : Nat → Bool} {n : Nat} (hn : n ≤ 8) (hb : ∀ p, n ≤ p → b p = false) : (nI (bm b 8) = (1 : Int32) <<< (nI n &&& 31) - 1) = (∀ p, p < n → b p = true) := by
  have h1 : nI (2 ^ n) - 1 = nI (2 ^ n - 1) := pk_sub (b := 1) (Nat.two_pow_pos n)
  have h2 : bm (fun _ => true) n = bm (fun p => decide (p < n)) 8 := by
    rw [← bm_w (m := n) hn (fun i h1 _ => by simpa using h1)]
    exact bm_x (fun i hi => by simp [hi])
  rw [b_one (by omega), h1, bm_all, h2, nI_eq_i (bm_31 _ (by decide)) (bm_31 _ (by decide))]
  apply propext
  constructor
  · intro h p hp
    have := bm_i h p (by omega)
    rw [this]; simpa using hp
  · intro h
    apply bm_x
    intro p _
    by_cases hp : p < n
    · rw [h p hp]; simp [hp]
    · rw [hb p (by omega)]; simp; omega
/-- those beyond the people know nothing -/
theorem c_own_n {T : Tn} {f day : Nat} {κ : Nat → Bool} (hf : T 2 f < T 0 0) (hk : ∀ p, T 0 0 ≤ p → κ p = false) : ∀ p, T 0 0 ≤ p → c_own T f day κ p = false := by
  intro p hp
  have : (T 2 f == p) = false := by simp; omega
  simp [c_own, hk p hp, this]
theorem c_naps_n {T : Tn} {d : Nat → Nat} {u : Nat → Bool} {day : Nat} {κ : Nat → Bool} (ok : OkT T) (hk : ∀ p, T 0 0 ≤ p → κ p = false) : ∀ k p, T 0 0 ≤ p → c_naps T d u day κ k p = false := by
  intro k
  induction k with
  | zero => exact hk
  | succ k ih =>
    intro p hp
    show (_ || _) = false
    rw [ih p hp]
    by_cases h : k < T 0 3
    · have := (ok.2.2.2.2.2.2.1 k h).1
      have e : (T 7 k == p) = false := by simp; omega
      rw [e]; simp
    · simp [h]
theorem c_tr_n {T : Tn} {day a : Nat} {κ : Nat → Bool} (ok : OkT T) (hk : ∀ p, T 0 0 ≤ p → κ p = false) : ∀ k p, T 0 0 ≤ p → c_tr T day a κ k p = false := by
  intro k
  induction k with
  | zero => exact hk
  | succ k ih =>
    intro p hp
    show (_ || _) = false
    rw [ih p hp]
    by_cases h : a + k < T 0 2
    · have := (ok.2.2.2.2.2.1 (a + k) h)
      have e : (p == T 4 (a + k)) = false := by simp; omega
      have e' : (p == T 5 (a + k)) = false := by simp; omega
      rw [e, e']; simp
    · simp [h]
theorem c_nit_n {n : Nat} {d : Nat → Nat} {u κ : Nat → Bool} (od : OkD n d) (hk : ∀ p, n ≤ p → κ p = false) : ∀ p, n ≤ p → c_nit d u κ p = false := by
  intro p hp
  unfold c_nit
  rw [hk p hp, od.2.1 p hp]
  simp
theorem c_day_n {T : Tn} {d : Nat → Nat} {w u : Nat → Bool} {f day : Nat} {κ : Nat → Bool} (ok : OkT T) (hf : f < T 0 1) (hk : ∀ p, T 0 0 ≤ p → κ p = false) : ∀ p, T 0 0 ≤ p → c_day T d w u f day κ p = false := by
  have h1 := c_own_n (day := day) (ok.2.2.2.2.1 f hf).1 hk
  unfold c_day c_tk c_np c_talks
  intro p hp
  split
  · split
    · exact c_tr_n ok (c_naps_n ok h1 8) 8 p hp
    · exact c_tr_n ok h1 8 p hp
  · split
    · exact c_naps_n ok h1 8 p hp
    · exact h1 p hp
theorem c_ngt_n {T : Tn} {d : Nat → Nat} {w u : Nat → Bool} {f : Nat} {κ : Nat → Bool} (od : OkD (T 0 0) d) (hk : ∀ p, T 0 0 ≤ p → κ p = false) : ∀ p, T 0 0 ≤ p → c_ngt T d w u f κ p = false := by
  unfold c_ngt
  split
  · exact c_nit_n od hk
  · exact hk
theorem c_beh_n {T : Tn} {d : Nat → Nat} {w us : Nat → Bool} {f : Nat} (ok : OkT T) (od : OkD (T 0 0) d) (hf : f < T 0 1) : ∀ day p, T 0 0 ≤ p → c_beh T d w us f day p = false := by
  intro day
  induction day with
  | zero => intro p _; rfl
  | succ day ih =>
    unfold c_beh
    exact c_ngt_n od (c_day_n ok hf ih)
/-- whether all know -/
def allb (n : Nat) (κ : Nat → Bool) : Bool := !anyb (fun p => !κ p) n
theorem allb_t {n : Nat} {κ : Nat → Bool} : allb n κ = true ↔ ∀ p, p < n → κ p = true := by
  unfold allb
  rw [Bool.not_eq_true', anyb_f]
  exact ⟨fun h p hp => by have := h p hp; simpa using this, fun h p hp => by simp [h p hp]⟩
/-- the first day behind which all know -/
def c_all (T : Tn) (d : Nat → Nat) (w : Nat → Bool) (f : Nat) : Option Nat := ff (fun day => allb (T 0 0) (c_beh T d w (fun _ => false) f (day + 1))) 28
def oI : Option Nat → Int32
  | some i => nI i
  | none => -1
theorem ff_from {p : Nat → Bool} {n k : Nat} (hk : k ≤ n) (h : ∀ i, i < k → p i = false) : ff p n = (ff (fun i => p (k + i)) (n - k)).map (fun i => k + i) := by
  cases e : ff (fun i => p (k + i)) (n - k) with
  | none =>
    rw [ff_none] at e
    rw [Option.map_none, ff_none]
    intro l hl
    by_cases h2 : l < k
    · exact h l h2
    · have := e (l - k) (by omega)
      rw [show k + (l - k) = l by omega] at this
      exact this
  | some j =>
    obtain ⟨h1, h2, h3⟩ := ff_some.mp e
    rw [Option.map_some, ff_some]
    refine ⟨by omega, h2, fun l hl => ?_⟩
    by_cases h4 : l < k
    · exact h l h4
    · have := h3 (l - k) (by omega)
      rw [show k + (l - k) = l by omega] at this
      exact this
theorem e_firstAll {X c f : Nat} {T : Tn} {d : Nat → Nat} {w : Nat → Bool} {μ : Mm} (h : Sh X μ) (hc : TwS c (mm_K μ) (mm_P μ)) (ht : CTn c T μ) (ok : OkT T) (od : OkD (T 0 0) d) (hT : SpT X c T μ) (hD : SpD X d μ) (hF : SpF X T f w (fun _ => false) μ) (hf : f < T 0 1) : f_X4_firstDayOfAll (X + 58) μ = some (oI (c_all T d w f)) := by
  have hff := ok.2.2.2.2.1 f hf
  have hn0 := ok.1.1
  have i1 := fun κ day hd => e_byDay (κ := κ) (day := day) h ok od hT hD hF hf hd
  have i2 := fun κ day hd => e_byNight (κ := κ) (day := day) h ok od hT hD hF hd
  have hP := hT.1
  obtain ⟨h8, -⟩ := hF
  unfold f_X4_firstDayOfAll
  rw [if_pos (by rw [mk_58 h]), e_gfP (by rw [mk_58 h]) hP, ob, ct_n hc ht, ob, ob, rf_58 h, ob, h8]
  have hst : ∀ i, i < 28 - T 3 f → f_X4_firstDayOfAll_L19 (X + 58) ((1 : Int32) <<< (nI (T 0 0) &&& 31) - 1) μ (nI (bm (c_beh T d w (fun _ => false) f (T 3 f + i)) 8), nI (T 3 f + i)) = if allb (T 0 0) (c_beh T d w (fun _ => false) f (T 3 f + i + 1)) then some (.inr (.inl (nI (T 3 f + i)))) else some (.inl (nI (bm (c_beh T d w (fun _ => false) f (T 3 f + i + 1)) 8), nI (T 3 f + i + 1))) := by
    intro i hi
    simp only [f_X4_firstDayOfAll_L19]
    rw [if_neg (by rw [show (28 : Int32) = nI 28 from rfl, nI_le_i (by omega) (by omega)]; omega), i1 _ _ (by omega), ob, i2 _ _ (by omega), ob]
    have ea := all_n hn0 (c_beh_n (w := w) (us := fun _ => false) ok od hf (T 3 f + i + 1))
    have eb : nI (bm (c_ngt T d w (fun q => dl T q (T 3 f + i) || (fun _ => false) q) f (c_day T d w (fun q => dl T q (T 3 f + i) || (fun _ => false) q) f (T 3 f + i) (c_beh T d w (fun _ => false) f (T 3 f + i)))) 8) = nI (bm (c_beh T d w (fun _ => false) f (T 3 f + i + 1)) 8) := rfl
    rw [eb]
    simp only [ea]
    by_cases e : allb (T 0 0) (c_beh T d w (fun _ => false) f (T 3 f + i + 1)) = true
    · rw [if_pos e, if_pos (allb_t.mp e)]
    · rw [if_neg e, if_neg (fun q => e (allb_t.mpr q)), ob, nI_1]
  refine (whl_fb (28 - T 3 f) (fun i => (nI (bm (c_beh T d w (fun _ => false) f (T 3 f + i)) 8), nI (T 3 f + i))) (fun i => allb (T 0 0) (c_beh T d w (fun _ => false) f (T 3 f + i + 1))) (fun i => .inl (nI (T 3 f + i))) (b := .inr ()) ?_ (fun i hi hp => ?_) (fun i hi hp => ?_) ?_).trans ?_
  · rw [Nat.add_zero, c_beh_f _ _ _ _ _ _ (Nat.le_refl _), ← bm_0]; rfl
  · rw [hst i hi, hp]; rfl
  · rw [hst i hi, hp]; rfl
  · simp only [f_X4_firstDayOfAll_L19]
    rw [show T 3 f + (28 - T 3 f) = 28 by omega, if_pos (by decide)]
  · have hz : ∀ i, i < T 3 f → allb (T 0 0) (c_beh T d w (fun _ => false) f (i + 1)) = false := by
      intro i hi
      have hne : 0 < T 0 0 := by omega
      rw [c_beh_f _ _ _ _ _ _ (by omega)]
      cases e : allb (T 0 0) (fun _ => false) with
      | false => rfl
      | true => have := allb_t.mp e 0 hne; cases this
    have e := ff_from (p := fun day => allb (T 0 0) (c_beh T d w (fun _ => false) f (day + 1))) (n := 28) (k := T 3 f) (by omega) hz
    unfold c_all
    rw [e]
    cases ff (fun i => allb (T 0 0) (c_beh T d w (fun _ => false) f (T 3 f + i + 1))) (28 - T 3 f) with
    | none => rfl
    | some j => rfl
/-! rows: four bits a person -/
def nb (w p : Nat) : Nat := w / 16 ^ p % 16
theorem p16 (p : Nat) : (2 : Nat) ^ (4 * p) = 16 ^ p := by rw [Nat.pow_mul]
theorem nI_15 : ∀ q, q < 16 → (nI q = (15 : Int32)) = (q = 15) := by
  intro q hq
  exact nI_eq_i (b := 15) (by omega) (by decide)
theorem e_dreamOf {w p : Nat} {μ : Mm} (hw : w < 2 ^ 32) (hp : p < 8) : f_X9_dreamOf (nI w) (nI p) μ = some (dI (nb w p)) := by
  unfold f_X9_dreamOf
  have e4 : (4 : Int32) * nI p = nI (4 * p) := pk_mul 4 p
  have hd : w / 2 ^ (4 * p) < 2 ^ 32 := Nat.lt_of_le_of_lt (Nat.div_le_self _ _) hw
  have e5 : nI (w / 2 ^ (4 * p)) &&& (15 : Int32) = nI (nb w p) := by
    rw [pk_andN hd 4 (by decide), p16]; rfl
  rw [e4, b_ushr (by omega) hw, e5, ob]
  simp only [nI_15 (nb w p) (Nat.mod_lt _ (by decide))]
  unfold dI
  split <;> rfl
theorem dI_lt {q : Nat} (h : q < 8 ∨ q = 15) : (dI q < 0) = (q = 15) := by
  unfold dI
  by_cases e : q = 15
  · rw [if_pos e]; simp [e]
  · rw [if_neg e]
    have := nI_pos (n := q) (by omega)
    simp [e, this]
def m_tr (X : Nat) (d : Nat → Nat) (μ : Mm) : Mm := ms_A (ms_A μ (X + 63) (fun q => if q < 8 then nI (bm (fun p => d p == q) 8) else mm_I μ (X + 63) q)) (X + 62) (fun p => if p < 8 then dI (d p) else mm_I μ (X + 62) p)
theorem e_setTurning {X n w : Nat} {d : Nat → Nat} {μ : Mm} (h : Sh X μ) (hw : w < 2 ^ 32) (hn : n ≤ 8) (hdw : ∀ p, p < 8 → nb w p = d p) (od : OkD n d) : f_X4_setTurning (X + 58) (nI w) μ = some (m_tr X d μ) := by
  have e8 : (8 : Int32) = nI 8 := rfl
  unfold f_X4_setTurning
  rw [if_pos (by rw [mk_58 h]), rp_58_4 h, ob, e_fillI (mk_63 h) (by decide), ob]
  have hSh : ∀ f g, Sh X (ms_A (ms_A μ (X + 63) f) (X + 62) g) := fun _ _ => h
  refine whl_b 8 (fun i => (nI i, ms_A (ms_A μ (X + 63) (fun q => if q < 8 then nI (bm (fun p => decide (p < i) && d p == q) 8) else mm_I μ (X + 63) q)) (X + 62) (fun p => if p < i then dI (d p) else mm_I μ (X + 62) p))) (b := m_tr X (d) μ) ?_ (fun i hi => ?_) ?_
  · have e0 : (fun p => if p < 0 then dI (d p) else mm_I μ (X + 62) p) = mm_I (ms_A μ (X + 63) (fun q => if q < 8 then nI (bm (fun p => decide (p < 0) && d p == q) 8) else mm_I μ (X + 63) q)) (X + 62) := by
      funext p
      rw [if_neg (by omega), rA, if_neg (by omega)]
    rw [e0, sA_id]
    congr 2
    funext q
    split
    · have : (fun p => decide (p < 0) && d p == q) = fun _ => false := by funext p; simp
      rw [this, ← bm_0]; rfl
    · rfl
  · have h1 := od.1 i
    simp only [f_X4_setTurning_L10, f_X4_setTurning_J48]
    rw [if_neg (by rw [e8, nI_le_i (by omega) (by omega)]; omega), e_dreamOf hw hi, hdw i hi, ob, rp_58_3 (hSh _ _), ob, wa_62 (hSh _ _) _ hi, ob, sA_I]
    have er : u1 (fun p => if p < i then dI (d p) else mm_I μ (X + 62) p) i (dI (d i)) = fun p => if p < i + 1 then dI (d p) else mm_I μ (X + 62) p := by
      funext p
      by_cases hp : p = i
      · rw [hp, u1_s, if_pos (by omega)]
      · rw [u1_n _ _ hp]
        by_cases h2 : p < i
        · rw [if_pos h2, if_pos (by omega)]
        · rw [if_neg h2, if_neg (by omega)]
    rw [er]
    simp only [dI_lt (h1.imp (fun q => by omega) id)]
    by_cases e1 : d i = 15
    · rw [if_pos e1, ob, nI_1]
      congr 5
      funext q
      split
      · rename_i hq
        congr 1
        apply bm_x
        intro p hp
        by_cases h2 : p = i
        · have : (15 == q) = false := by simp; omega
          simp [h2, e1, this]
        · have : (p < i + 1) = (p < i) := by apply propext; omega
          simp [this]
      · rfl
    · have e2 : d i < 8 := by omega
      have e3 : dI (d i) = nI (d i) := if_neg e1
      rw [if_neg e1, e3, if_neg (by rw [e8, nI_le_i (by omega) (by omega)]; omega), rp_58_4 (hSh _ _), ob, wa_63 (hSh _ _) _ e2, ob, ob, nI_1, b_one (by omega), sI_A, sA_c _ (by omega), sA_A]
      congr 5
      rw [rA, if_neg (by omega), rA, if_pos rfl]
      funext q
      by_cases hq : q = d i
      · rw [hq, u1_s, if_pos e2, bm_1 hi]
        congr 1
        apply bm_x
        intro p hp
        by_cases h2 : p = i
        · simp [h2]
        · have h3 : d p ≠ d i := fun q => h2 (od.2.2.1 p i q (fun q2 => e1 (q ▸ q2)))
          have h4 : (d p == d i) = false := by simpa using h3
          have h5 : (p == i) = false := by simpa using h2
          rw [h4, h5, Bool.and_false]
      · rw [u1_n _ _ hq]
        split
        · congr 1
          apply bm_x
          intro p hp
          by_cases h2 : p = i
          · have : (d i == q) = false := by simp; omega
            simp [h2, this]
          · have : (p < i + 1) = (p < i) := by apply propext; omega
            simp [this]
        · rfl
  · simp only [f_X4_setTurning_L10]
    rw [if_pos (by decide)]
    unfold m_tr
    rfl
