/-! ===== the class's census: what it keeps, what it changes ===== -/
/-- what a run of the census may change -/
def FrZ (X : Nat) (μ ν : Mm) : Prop := (mm_S ν = mm_S μ ∧ mm_N μ ≤ mm_N ν ∧ ∀ a, a < mm_N μ → mm_K ν a = mm_K μ a) ∧ (∀ q k, q < X + 135 → q ≠ X + 67 → (q = X + 66 → k ≠ 6 ∧ k ≠ 7) → mm_P ν q k = mm_P μ q k) ∧ (∀ q, q < X + 135 → q ≠ X + 58 → q ≠ X + 62 → q ≠ X + 63 → q ≠ X + 66 → q ≠ X + 80 → q ≠ X + 81 → q ≠ X + 82 → q ≠ X + 83 → mm_I ν q = mm_I μ q) ∧ (∀ q, q < X + 68 ∨ inM X q → mm_L ν q = mm_L μ q)
/-- the census: rows, fitting, their length; how many turnings are listed, which facts are found; lines and their lengths -/
def Cz (X : Nat) (T : Tn) (Rw Ft nr sz fo : Nat) (Ml Ln : Nat → Nat) (μ : Mm) : Prop :=
  (mm_P μ (X + 66) 6 = some Rw ∧ mm_P μ (X + 66) 7 = some Ft ∧ mm_K μ Rw = (20, nr) ∧ mm_K μ Ft = (20, nr) ∧ nr ≤ 14833 ∧ Rw ≠ Ft ∧ (Rw = X + 82 ∨ X + 135 ≤ Rw) ∧ (Ft = X + 83 ∨ X + 135 ≤ Ft) ∧ Rw < mm_N μ ∧ Ft < mm_N μ) ∧
  (∀ f, f < 12 → mm_P μ (X + 67) f = some (Ml f) ∧ mm_K μ (Ml f) = (21, Ln f) ∧ Ln f ≤ 14833 ∧ (Ml f = X + 68 + f ∨ X + 135 ≤ Ml f) ∧ Ml f < mm_N μ) ∧ (∀ f g, f < 12 → g < 12 → Ml f = Ml g → f = g) ∧
  (mm_I μ (X + 66) 9 = nI sz ∧ mm_I μ (X + 66) 10 = nI fo ∧ (sz = 0 ∨ sz = (EN T).length) ∧ fo < 2 ^ 12) ∧
  (sz ≠ 0 → (EN T).length ≤ nr ∧ ∀ k, k < (EN T).length → mm_I μ Rw k = nI (cr T (rwT T k))) ∧
  (∀ f, fo.testBit f = true → (sz ≠ 0 ∧ f < T 0 1) ∧ (EN T).length ≤ Ln f ∧ ∀ k, k < (EN T).length → mm_L μ (Ml f) k = mom T (dr T k) f) ∧
  (X + 135 ≤ mm_N μ ∧ mm_N μ ≤ X + 135 + 2 * nr + sgl Ln ∧ mm_Z μ ≤ 30000 + 2 * phi nr + sgl (fun f => phi (Ln f)))
def Ak (X : Nat) (T : Tn) (A : Nat → Nat → Nat) (as : Bool) (μ : Mm) : Prop := mm_I μ (X + 66) 11 = nI as.toNat ∧ (as = true → mm_I μ (X + 66) 12 = askI T A 0 ∧ mm_I μ (X + 66) 13 = askI T A 1 ∧ mm_I μ (X + 66) 14 = askI T A 2)
section CEN
variable {X i c : Nat} {s : Sv} {T : Tn} {A : Nat → Nat → Nat} {μ ν ρ : Mm}
theorem cc_z (h : Cc X T A μ) : ∃ Rw Ft nr sz fo Ml Ln as, Cz X T Rw Ft nr sz fo Ml Ln μ ∧ Ak X T A as μ := by
  obtain ⟨Rw, Ft, nr, sz, fo, Ml, Ln, as, h1, h2, h3, h4, h5, h6, h7, h8⟩ := h
  exact ⟨Rw, Ft, nr, sz, fo, Ml, Ln, as, ⟨h1, h2, h3, ⟨h4.1, h4.2.1, h4.2.2.2⟩, h5, h6, h8⟩, h4.2.2.1, h7⟩
theorem z_cc {Rw Ft nr sz fo : Nat} {Ml Ln : Nat → Nat} {as : Bool} (h : Cz X T Rw Ft nr sz fo Ml Ln μ) (h' : Ak X T A as μ) : Cc X T A μ := by
  obtain ⟨h1, h2, h3, h4, h5, h6, h8⟩ := h
  exact ⟨Rw, Ft, nr, sz, fo, Ml, Ln, as, h1, h2, h3, ⟨h4.1, h4.2.1, h'.1, h4.2.2⟩, h5, h6, h'.2, h8⟩
theorem FrZ_r : FrZ X μ μ := ⟨⟨rfl, Nat.le_refl _, fun _ _ => rfl⟩, fun _ _ _ _ _ => rfl, fun _ _ _ _ _ _ _ _ _ _ => rfl, fun _ _ => rfl⟩
theorem FrZ_t (h : FrZ X μ ν) (h' : FrZ X ν ρ) : FrZ X μ ρ := ⟨⟨h'.1.1.trans h.1.1, Nat.le_trans h.1.2.1 h'.1.2.1, fun a ha => (h'.1.2.2 a (by have := h.1.2.1; omega)).trans (h.1.2.2 a ha)⟩, fun q k a b d => (h'.2.1 q k a b d).trans (h.2.1 q k a b d), fun q a1 a2 a3 a4 a5 a6 a7 a8 a9 => (h'.2.2.1 q a1 a2 a3 a4 a5 a6 a7 a8 a9).trans (h.2.2.1 q a1 a2 a3 a4 a5 a6 a7 a8 a9), fun q a => (h'.2.2.2 q a).trans (h.2.2.2 q a)⟩
theorem FrZ_I {a k : Nat} {v : Int32} (h : a = X + 58 ∨ a = X + 62 ∨ a = X + 63 ∨ a = X + 66 ∨ a = X + 80 ∨ a = X + 81 ∨ a = X + 82 ∨ a = X + 83 ∨ X + 135 ≤ a) : FrZ X μ (ms_I μ a k v) := ⟨⟨rfl, Nat.le_refl _, fun _ _ => rfl⟩, fun _ _ _ _ _ => rfl, fun q _ _ _ _ _ _ _ _ _ => by rw [iI, if_neg (by omega)], fun _ _ => rfl⟩
theorem FrZ_A {a : Nat} {f : Nat → Int32} (h : a = X + 58 ∨ a = X + 62 ∨ a = X + 63 ∨ a = X + 66 ∨ a = X + 80 ∨ a = X + 81 ∨ a = X + 82 ∨ a = X + 83 ∨ X + 135 ≤ a) : FrZ X μ (ms_A μ a f) := ⟨⟨rfl, Nat.le_refl _, fun _ _ => rfl⟩, fun _ _ _ _ _ => rfl, fun q _ _ _ _ _ _ _ _ _ => by rw [iA, if_neg (by omega)], fun _ _ => rfl⟩
theorem FrZ_L {a k : Nat} {v : Int64} (h : (X + 68 ≤ a ∧ a < X + 80) ∨ X + 135 ≤ a) : FrZ X μ (ms_L μ a k v) := ⟨⟨rfl, Nat.le_refl _, fun _ _ => rfl⟩, fun _ _ _ _ _ => rfl, fun _ _ _ _ _ _ _ _ _ _ => rfl, fun q hq => by unfold inM at hq; rw [lL, if_neg (by omega)]⟩
theorem FrZ_P {a k : Nat} {v : Option Nat} (h : a = X + 67 ∨ (a = X + 66 ∧ (k = 6 ∨ k = 7))) : FrZ X μ (ms_P μ a k v) := ⟨⟨rfl, Nat.le_refl _, fun _ _ => rfl⟩, fun q j _ h1 h2 => by rw [rP, if_neg (by omega)], fun _ _ _ _ _ _ _ _ _ _ => rfl, fun _ _ => rfl⟩
theorem FrZ_N {t n : Nat} (h : X + 135 ≤ mm_N μ) : FrZ X μ (mn_C μ t n) := ⟨⟨rfl, Nat.le_succ _, fun a ha => if_neg (by omega)⟩, fun q k hq _ _ => by
  show (u1 (mm_P μ) (mm_N μ) (fun _ => none)) q k = _
  rw [u1_n _ _ (by omega)], fun q hq _ _ _ _ _ _ _ _ => by
  show (u1 (mm_I μ) (mm_N μ) (fun _ => 0)) q = _
  rw [u1_n _ _ (by omega)], fun q hq => by
  show (u1 (mm_L μ) (mm_N μ) (fun _ => 0)) q = _
  rw [u1_n _ _ (by unfold inM at hq; omega)]⟩
theorem FrZ_sh (h : FrZ X μ ν) (hn : X + 135 ≤ mm_N μ) (hs : Sh X μ) : Sh X ν := by
  refine ⟨fun q hq => ?_, fun q hq => ?_⟩
  · have key : ∀ q ∈ k_tab, q.1 < 135 := by decide +kernel
    have := key q hq
    rw [h.1.2.2 _ (by omega)]
    exact hs.1 q hq
  · have key : ∀ q ∈ p_tab, q.1 < 135 ∧ q.1 ≠ 67 ∧ (q.1 = 66 → q.2.1 ≠ 6 ∧ q.2.1 ≠ 7) := by decide +kernel
    have := key q hq
    rw [h.2.1 _ _ (by omega) (by omega) (fun z => this.2.2 (by omega))]
    exact hs.2 q hq
/-- all but the census stays -/
theorem IC_z (h : IC X i c s μ) (f : FrZ X μ ν) (hn : X + 135 ≤ mm_N μ) (hz : Cc X s.1 s.2.2.2.2.2.1 ν) : IC X i c s ν ∧ ChC X μ ν := by
  obtain ⟨⟨a1, a2, a3, a4⟩, ⟨b1, b2, b3, b4, b5, b6⟩, h3, h4, ⟨h5a, h5⟩, ⟨h6a, h6⟩, -⟩ := h
  have hI := f.2.2.1
  have hi : ∀ q, X ≤ q → q < X + 135 → q ≠ X + 58 → q ≠ X + 62 → q ≠ X + 63 → q ≠ X + 66 → q ≠ X + 80 → q ≠ X + 81 → q ≠ X + 82 → q ≠ X + 83 → mm_I ν q = mm_I μ q := fun q _ g1 g2 g3 g4 g5 g6 g7 g8 g9 => hI q g1 g2 g3 g4 g5 g6 g7 g8 g9
  refine ⟨⟨⟨FrZ_sh f hn a1, ?_, ?_, ?_⟩, ⟨b1, b2, ctn_x (fun q _ _ => hi q (by omega) (by omega) (by omega) (by omega) (by omega) (by omega) (by omega) (by omega) (by omega) (by omega)) b3, tuP_x (fun q _ _ => hi q (by omega) (by omega) (by omega) (by omega) (by omega) (by omega) (by omega) (by omega) (by omega) (by omega)) b4, ?_, ?_⟩, cp_x (hi _ (by omega) (by omega) (by omega) (by omega) (by omega) (by omega) (by omega) (by omega) (by omega) (by omega)) (hi _ (by omega) (by omega) (by omega) (by omega) (by omega) (by omega) (by omega) (by omega) (by omega) (by omega)) h3, cf_x (hi _ (by omega) (by omega) (by omega) (by omega) (by omega) (by omega) (by omega) (by omega) (by omega) (by omega)) h4, ⟨h5a, ca_x (fun q _ _ => hi q (by omega) (by omega) (by omega) (by omega) (by omega) (by omega) (by omega) (by omega) (by omega) (by omega)) h5⟩, ⟨h6a, cr_x (fun q _ => hi q (by omega) (by omega) (by omega) (by omega) (by omega) (by omega) (by omega) (by omega) (by omega) (by omega)) h6⟩, hz⟩, fun q hq => ?_, fun q hq => f.2.2.2 q (Or.inr hq), fun q hq => ⟨?_, ?_⟩⟩
  · rw [f.2.1 _ _ (by omega) (by omega) (by omega)]; exact a2
  · rw [f.2.1 _ _ (by omega) (by omega) (by omega)]; exact a3
  · rw [f.2.1 _ _ (by omega) (by omega) (by omega)]; exact a4
  · obtain ⟨b5a, b5b⟩ := b5
    unfold SpT
    rw [f.2.1 _ _ (by omega) (by omega) (by omega), hi (X + 59) (by omega) (by omega) (by omega) (by omega) (by omega) (by omega) (by omega) (by omega) (by omega) (by omega), hi (X + 60) (by omega) (by omega) (by omega) (by omega) (by omega) (by omega) (by omega) (by omega) (by omega) (by omega), hi (X + 61) (by omega) (by omega) (by omega) (by omega) (by omega) (by omega) (by omega) (by omega) (by omega) (by omega), hi (X + 64) (by omega) (by omega) (by omega) (by omega) (by omega) (by omega) (by omega) (by omega) (by omega) (by omega), hi (X + 65) (by omega) (by omega) (by omega) (by omega) (by omega) (by omega) (by omega) (by omega) (by omega) (by omega)]
    exact ⟨b5a, b5b⟩
  · rw [hi X (by omega) (by omega) (by omega) (by omega) (by omega) (by omega) (by omega) (by omega) (by omega) (by omega)]; exact b6
  · unfold inM at hq
    exact hi q (by omega) (by omega) (by omega) (by omega) (by omega) (by omega) (by omega) (by omega) (by omega) (by omega)
  · exact hI q (by omega) (by omega) (by omega) (by omega) (by omega) (by omega) (by omega) (by omega) (by omega)
  · exact f.1.2.2 q (by omega)
/-- memory made new -/
theorem cN_I (t n a : Nat) : mm_I (mn_C μ t n) a = if a = mm_N μ then (fun _ => 0) else mm_I μ a := rfl
theorem cN_L (t n a : Nat) : mm_L (mn_C μ t n) a = if a = mm_N μ then (fun _ => 0) else mm_L μ a := rfl
theorem cN_P (t n a : Nat) : mm_P (mn_C μ t n) a = if a = mm_N μ then (fun _ => none) else mm_P μ a := rfl
theorem cN_K (t n a : Nat) : mm_K (mn_C μ t n) a = if a = mm_N μ then (t, n) else mm_K μ a := rfl
theorem cN_Z {t n : Nat} (h : 12 < t) : mm_Z (mn_C μ t n) = mm_Z μ + n := by
  show mm_Z μ + (if t ≤ 12 then cfn t else n) = _
  rw [if_neg (by omega)]
theorem e_nwA {t n : Nat} (h : n ≤ 100000) : nw_A t (nI n) μ = some (mm_N μ, mn_C μ t n) := by
  unfold nw_A
  rw [nI_toInt (by omega), if_pos ⟨by omega, by omega⟩, nI_clamp (by omega)]
/-- room by doubling -/
def rmf (had need : Nat) : Nat := max need (min (2 * had) 14833)
theorem e_rmf {had need : Nat} (h1 : had ≤ 14833) (h2 : need ≤ 14833) : f_X1_roomFor (nI had) (nI need) μ = some (nI (rmf had need)) := by
  unfold f_X1_roomFor rmf
  rw [show (2 : Int32) * nI had = nI (2 * had) from pk_mul 2 had, show (14833 : Int32) = nI 14833 from rfl]
  simp only [nI_lt_i (show 14833 < 2 ^ 31 by decide) (show 2 * had < 2 ^ 31 by omega)]
  by_cases z : 14833 < 2 * had
  · rw [if_pos z, Nat.min_eq_right (by omega)]
    by_cases y : need < 14833
    · rw [if_pos (by rw [nI_lt_i (by omega) (by decide)]; exact y), Nat.max_eq_right (by omega)]
    · rw [if_neg (by rw [nI_lt_i (by omega) (by decide)]; exact y), Nat.max_eq_left (by omega)]
  · rw [if_neg z, Nat.min_eq_left (by omega)]
    by_cases y : need < 2 * had
    · rw [if_pos (by rw [nI_lt_i (by omega) (by omega)]; exact y), Nat.max_eq_right (by omega)]
    · rw [if_neg (by rw [nI_lt_i (by omega) (by omega)]; exact y), Nat.max_eq_left (by omega)]
theorem rmf_b {had need : Nat} (h2 : need ≤ 14833) : need ≤ rmf had need ∧ rmf had need ≤ 14833 := by
  unfold rmf
  omega
/-- what doubling costs -/
theorem phi_r {had need : Nat} (h1 : had < need) (h2 : need ≤ 14833) : phi had + rmf had need ≤ phi (rmf had need) ∧ had + 1 ≤ rmf had need := by
  unfold phi rmf
  have : had < 14833 := by omega
  rw [if_pos this]
  by_cases z : max need (min (2 * had) 14833) < 14833
  · rw [if_pos z]; omega
  · rw [if_neg z]; omega
end CEN
