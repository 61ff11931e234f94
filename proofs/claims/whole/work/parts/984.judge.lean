/-! ===== judge: a book on the tape ===== -/
def tk (n : Nat) (B : Nat → Nat) (x : Nat) : Nat := tK n B (till isB n B x)
def tv (n : Nat) (B : Nat → Nat) (x : Nat) : Nat := dv B (till isB n B x) (tE n B (till isB n B x) - till isB n B x)
def tN (n : Nat) (B : Nat → Nat) (x : Nat) : Nat := tE n B (till isB n B x)
def okn (n : Nat) (B : Nat → Nat) (lim x : Nat) : Bool := tk n B x == 2 && decide (tv n B x ≤ lim)
/-- the acts of the book from x on -/
def bkL (n : Nat) (B : Nat → Nat) : Nat → Nat → Option (List (Nat × Nat × Nat))
  | 0, _ => none
  | k + 1, x => if tk n B x = 0 then some [] else if okn n B 27 x && okn n B 7 (tN n B x) && okn n B 11 (tN n B (tN n B x)) && (tk n B (tN n B (tN n B (tN n B x))) == 3) then (bkL n B k (tN n B (tN n B (tN n B (tN n B x))))).map (fun l => (tv n B x, tv n B (tN n B x), tv n B (tN n B (tN n B x))) :: l) else none
def nxb (R : Nat × Nat × Nat → Bool) (b : Option Nat) (m : Nat) (a : Nat × Nat × Nat) : Option Nat := match b with
  | some j => some j
  | none => if R a then none else some m
/-- the first act that is wrong -/
def fbad (R : Nat × Nat × Nat → Bool) : Option Nat → Nat → List (Nat × Nat × Nat) → Option Nat
  | b, _, [] => b
  | b, m, a :: l => fbad R (nxb R b m a) (m + 1) l
def rgt (T : Tn) (d : Nat → Nat) (a : Nat × Nat × Nat) : Bool := decide (a.2.1 < T 0 0) && decide (a.2.2 < T 0 1) && c_ahd T d (Nat.testBit 7) (fun _ => false) a.2.2 a.1 a.2.1
def jdg (b : Option Nat) (m : Nat) : Int32 := match b with
  | some j => -1 - nI j
  | none => nI m
section BK
variable {n x : Nat} {B : Nat → Nat}
theorem tN_le (h : x ≤ n) : tN n B x ≤ n := tE_le (till_p h).2.1
theorem tk_le : tk n B x ≤ 4 := tK_le _ _ _
/-- a number: one digit at least, and no digit after it -/
theorem num_gap (h : x ≤ n) (hk : tk n B x = 2) : x + 1 ≤ tN n B x ∧ isD (B (till isB n B x)) = true ∧ till isB n B x < n ∧ (tN n B x < n → isD (B (tN n B x)) = false) := by
  have ht := till_p (q := isB) (B := B) h
  unfold tk at hk
  unfold tN
  generalize till isB n B x = j at ht hk ⊢
  unfold tK at hk
  by_cases e0 : n ≤ j
  · rw [if_pos e0] at hk; cases hk
  · rw [if_neg e0] at hk
    by_cases e1 : isL (B j) = true
    · rw [if_pos e1] at hk
      split at hk <;> cases hk
    · rw [if_neg e1] at hk
      by_cases e2 : isD (B j) = true
      · have ee : tE n B j = till isD n B j := by unfold tE; rw [if_neg e0, if_neg e1, if_pos e2]
        obtain ⟨l1, l2, l3, l4⟩ := till_p (q := isD) (B := B) (show j ≤ n by omega)
        have l5 : j + 1 ≤ till isD n B j := by
          by_cases e : till isD n B j = j
          · have := l4 (by omega)
            rw [e, e2] at this; cases this
          · omega
        rw [ee]
        exact ⟨by omega, e2, by omega, l4⟩
      · rw [if_neg e2] at hk
        split at hk <;> cases hk
theorem two_gap (h : x ≤ n) (hk : tk n B x = 2) (hk2 : tk n B (tN n B x) = 2) : x + 3 ≤ tN n B (tN n B x) ∧ tN n B x + 2 ≤ tN n B (tN n B x) := by
  obtain ⟨g1, g2, g3, g4⟩ := num_gap h hk
  have hl := tN_le (B := B) h
  obtain ⟨t1, t2, t3, t4⟩ := till_p (q := isB) (B := B) hl
  obtain ⟨f1, f2, f3, f4⟩ := num_gap hl hk2
  have : till isB n B (tN n B x) ≠ tN n B x := fun e => by
    rw [e] at f2
    rw [g4 (by omega)] at f2; cases f2
  have f5 : till isB n B (tN n B x) + 1 ≤ tN n B (tN n B x) := by
    have h9 := num_gap (x := till isB n B (tN n B x)) (n := n) (B := B) t2 (by
      have e : till isB n B (till isB n B (tN n B x)) = till isB n B (tN n B x) := by
        obtain ⟨u1, u2, u3, u4⟩ := till_p (q := isB) (B := B) t2
        by_cases z : till isB n B (till isB n B (tN n B x)) = till isB n B (tN n B x)
        · exact z
        · have z1 := u3 (till isB n B (tN n B x)) (Nat.le_refl _) (by omega)
          rw [t4 (by omega)] at z1; cases z1
      unfold tk
      rw [e]; exact hk2)
    have e : till isB n B (till isB n B (tN n B x)) = till isB n B (tN n B x) := by
      obtain ⟨u1, u2, u3, u4⟩ := till_p (q := isB) (B := B) t2
      by_cases z : till isB n B (till isB n B (tN n B x)) = till isB n B (tN n B x)
      · exact z
      · have z1 := u3 (till isB n B (tN n B x)) (Nat.le_refl _) (by omega)
        rw [t4 (by omega)] at z1; cases z1
    have h10 := h9.1
    unfold tN at h10 ⊢
    unfold tN at e
    rw [e] at h10
    exact h10
  omega
theorem sem_gap (h : x ≤ n) (hk : tk n B x = 3) : x + 1 ≤ tN n B x := by
  have ht := till_p (q := isB) (B := B) h
  unfold tk at hk
  unfold tN
  generalize till isB n B x = j at ht hk ⊢
  unfold tK at hk
  by_cases e0 : n ≤ j
  · rw [if_pos e0] at hk; cases hk
  · rw [if_neg e0] at hk
    by_cases e1 : isL (B j) = true
    · rw [if_pos e1] at hk
      split at hk <;> cases hk
    · rw [if_neg e1] at hk
      by_cases e2 : isD (B j) = true
      · rw [if_pos e2] at hk
        split at hk <;> cases hk
      · have ee : tE n B j = j + 1 := by unfold tE; rw [if_neg e0, if_neg e1, if_neg e2]
        omega
/-- an act takes six bytes at least -/
theorem act_gap (h : x ≤ n) (h1 : tk n B x = 2) (h2 : tk n B (tN n B x) = 2) (h3 : tk n B (tN n B (tN n B x)) = 2) (h4 : tk n B (tN n B (tN n B (tN n B x))) = 3) : x + 6 ≤ tN n B (tN n B (tN n B (tN n B x))) := by
  have a1 := (two_gap h h1 h2).1
  have a2 := (two_gap (tN_le h) h2 h3).2
  have a3 := sem_gap (tN_le (tN_le (tN_le h))) h4
  omega
end BK
section CALLS
variable {b L : Nat} {xs : Nat → Int32} {X i c : Nat} {s : Sv} {μ ν : Mm}
theorem sp_f3 {T : Tn} {d : Nat → Nat} (h : Sp X c T d μ) (f : Fr3 X μ ν) : Sp X c T d ν := by
  obtain ⟨h1, h2, h3, h4⟩ := h
  have hc := cb_c h1
  refine ⟨?_, ctn_x (fun q g1 g2 => f.2.2.1 q (by omega)) h2, spT_x f.1 (fun q g => f.2.2.1 q (by omega)) h3, spD_x (f.2.2.1 _ (by omega)) (f.2.2.1 _ (by omega)) h4⟩
  unfold Cb at h1 ⊢
  rw [f.1]
  exact ⟨fr_sh h1.1 f, h1.2⟩
/-- the class's half while it reads the book -/
def PS (X i c : Nat) (s : Sv) (μ ν : Mm) : Prop := IC X i c s ν ∧ ChC X μ ν ∧ Sp X c s.1 (dr s.1 s.2.1) ν
theorem c_adv4 {x : Nat} (h : PS X i c s μ ν) (hx : mm_I ν (X + 3) 1 = nI x) (hxn : x ≤ s.2.2.1) : ∃ π, f_X6_advance (X + 3) ν = some π ∧ PS X i c s μ π ∧ mm_I π (X + 3) 1 = nI (tN s.2.2.1 s.2.2.2.1 x) ∧ mm_I π (X + 3) 2 = nI (tk s.2.2.1 s.2.2.2.1 x) ∧ (tk s.2.2.1 s.2.2.2.1 x = 2 → mm_I π (X + 3) 5 = nI (tv s.2.2.1 s.2.2.2.1 x)) := by
  obtain ⟨ν1, a1, a2, a3, a4, a5, a6, a7⟩ := c_adv h.1.1.1 h.1.2.2.1 hx hxn
  obtain ⟨b1, b2⟩ := IC_f3 h.1 a2
  exact ⟨ν1, a1, ⟨b1, ChC_t h.2.1 b2, sp_f3 h.2.2 a2⟩, a3, a4, a7⟩
theorem c_bkN {x lim : Nat} (h : Sh X ν) (hl : lim < 2 ^ 31) (h2 : mm_I ν (X + 3) 2 = nI (tk s.2.2.1 s.2.2.2.1 x)) (h5 : tk s.2.2.1 s.2.2.2.1 x = 2 → mm_I ν (X + 3) 5 = nI (tv s.2.2.1 s.2.2.2.1 x)) : f_X10_bookNumber X (nI lim) ν = some (if okn s.2.2.1 s.2.2.2.1 lim x then nI (tv s.2.2.1 s.2.2.2.1 x) else -1) := by
  have hk := tk_le (n := s.2.2.1) (B := s.2.2.2.1) (x := x)
  unfold f_X10_bookNumber f_X10_bookNumber_J32 okn
  rw [if_pos (by rw [mk_0 h]), rp_0_1 h, ob, rf_3 h, ob, h2]
  by_cases e : tk s.2.2.1 s.2.2.2.1 x = 2
  · have hd : tv s.2.2.1 s.2.2.2.1 x < 10000 := dv_4 e
    rw [e, if_pos (show nI 2 = 2 from rfl), ob, rf_3 h, ob, ob, rf_3 h, ob, h5 e]
    by_cases q : tv s.2.2.1 s.2.2.2.1 x ≤ lim
    · rw [if_neg (by rw [nI_lt_i (by omega) (by omega)]; omega), decide_eq_true q]; rfl
    · rw [if_pos (by rw [nI_lt_i (by omega) (by omega)]; omega), decide_eq_false q]; rfl
  · rw [if_neg (by rw [show (2 : Int32) = nI 2 from rfl, nI_eq_i (by omega) (by omega)]; exact e)]
    have : (tk s.2.2.1 s.2.2.2.1 x == 2) = false := by simpa using e
    rw [this]; rfl
theorem c_actR {dd p f : Nat} (h : PS X i c s μ ν) (hd : dd < 28) (hp : p < 8) (hf : f < 12) : ∃ π, f_X10_isActRight X (nI dd) (nI p) (nI f) ν = some (nI (rgt s.1 (dr s.1 s.2.1) (dd, p, f)).toNat, π) ∧ PS X i c s μ π ∧ ∀ k, mm_I π (X + 3) k = mm_I ν (X + 3) k := by
  have h1 := h.1.1.1
  obtain ⟨ok, ht, hct, -, -, -⟩ := h.1.2.1
  have od := dr_ok ok ht
  have hn := ok.1.1
  have hn1 := ok.1.2.1
  unfold f_X10_isActRight rgt
  rw [if_pos (by rw [mk_0 h1]), cb_p h.1.1, ob, e_isPerson' (cb_w h.1.1) hct ok, ob, bz_if]
  by_cases e1 : p < s.1 0 0
  · rw [if_pos (inR_nI e1 (by omega)), ob, e_isFact' (cb_w h.1.1) hct ok, ob, bz_if, decide_eq_true e1]
    by_cases e2 : f < s.1 0 1
    · obtain ⟨k1, k2, k3⟩ := sp_sf (us := fun _ => false) (v := 7) ok h.2.2 e2 (by decide)
      rw [nz] at k1
      replace k1 : f_X4_setFact (X + 58) (nI f) (7 : Int32) (0 : Int32) ν = some (m_sf X s.1 f (Nat.testBit 7) (fun _ => false) ν) := k1
      have hah := e_ahead (day := dd) k2.1.1 ok od k2.2.2.1 k2.2.2.2 k3 e2 hd
      have hi := fun q hq => m_sf_o X s.1 f (Nat.testBit 7) (fun _ => false) ν (q := q) hq
      rw [if_pos (inR_nI e2 (by omega)), rp_0_3 h1, ob, k1, ob, rp_0_3 k2.1.1, ob, hah, ob, bmb hp (by decide), decide_eq_true e2]
      have hIC : IC X i c s (m_sf X s.1 f (Nat.testBit 7) (fun _ => false) ν) := IC_scr (by rfl) (by rfl) (fun q g1 g2 g3 => hi q (fun e => g1 (by unfold scr; omega))) (by rw [hi X (by omega)]) (fun q g1 g2 g3 => by rfl) h.1
      have hCh : ChC X ν (m_sf X s.1 f (Nat.testBit 7) (fun _ => false) ν) := ⟨fun q hq => hi q (by unfold inM at hq; omega), fun q hq => by rfl, fun q hq => ⟨hi q (by omega), rfl⟩⟩
      refine ⟨_, ?_, ⟨hIC, ChC_t h.2.1 hCh, k2⟩, fun k => by rw [hi _ (by omega)]⟩
      cases c_ahd s.1 (dr s.1 s.2.1) (Nat.testBit 7) (fun _ => false) f dd p <;> rfl
    · rw [if_neg (fun q => by have := q.2; rw [nI_toInt (by omega)] at this; omega), decide_eq_false e2]
      exact ⟨ν, rfl, h, fun _ => rfl⟩
  · rw [if_neg (fun q => by have := q.2; rw [nI_toInt (by omega)] at this; omega), decide_eq_false e1]
    exact ⟨ν, rfl, h, fun _ => rfl⟩
end CALLS
