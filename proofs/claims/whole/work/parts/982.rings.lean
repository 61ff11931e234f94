/-! ===== rings: the ways of a pattern of rings ===== -/
theorem lN_int {a : Nat} (h : a < 2 ^ 63) : (lN a).toInt = a := Int64.toInt_ofNat_of_lt h
theorem lN_div {a b : Nat} (ha : a < 2 ^ 63) (hb : b < 2 ^ 63) : lN a / lN b = lN (a / b) := by
  have hd : a / b ≤ a := Nat.div_le_self _ _
  apply Int64.toInt_inj.mp
  rw [Int64.toInt_div, lN_int ha, lN_int hb, lN_int (by omega), show ((a : Int).tdiv (b : Int)) = ((a / b : Nat) : Int) from rfl]
  generalize a / b = d at hd
  simp only [Int.bmod]
  split <;> omega
theorem lN_nz {a : Nat} (h1 : a ≠ 0) (h2 : a < 2 ^ 63) : ¬ lN a = 0 := fun e => by
  have := lN_int h2
  rw [e] at this
  have h0 : (0 : Int64).toInt = 0 := rfl
  omega
def fct : Nat → Nat
  | 0 => 1
  | n + 1 => fct n * (n + 1)
theorem fct_pos : ∀ n, 0 < fct n := by
  intro n
  induction n with
  | zero => exact Nat.one_pos
  | succ n ih => exact Nat.mul_pos ih (Nat.succ_pos _)
theorem fct_20 : ∀ n, n ≤ 20 → fct n < 2 ^ 63 := by decide +kernel
/-- what is left after the rings of m sizes, from two on -/
def rgF (C : Nat → Nat) (v : Nat) : Nat → Nat
  | 0 => v
  | m + 1 => rgF C v m / ((m + 2) ^ C (m + 2) * fct (C (m + 2)))
theorem rgF_le (C : Nat → Nat) (v : Nat) : ∀ m, rgF C v m ≤ v := by
  intro m
  induction m with
  | zero => exact Nat.le_refl _
  | succ m ih => exact Nat.le_trans (Nat.div_le_self _ _) ih
section TOK
variable {X S : Nat} {C : Nat → Nat} {μ : Mm}
theorem c_ways (h : Sh X μ) (hS : S ≤ 20) (hC : ∀ q, q < 21 → mm_I μ (X + 19) q = nI (C q)) (hC2 : ∀ q, C q ≤ 20) : f_X10_waysOfRings X (nI S) μ = some (lN (rgF C (fct S) 19)) := by
  have hf := fct_20 S hS
  have f1 : whl (f_X10_waysOfRings_L5 X (nI S) μ) ((1 : Int64), (2 : Int32)) = some (lN (fct S)) := by
    by_cases e : S = 0
    · subst e
      refine whl_r ?_
      simp only [f_X10_waysOfRings_L5]
      rw [if_pos (by decide)]; rfl
    · refine whl_c (S - 1) (fun k => (lN (fct (k + 1)), nI (k + 2))) rfl (fun k hk => ?_) ?_
      · simp only [f_X10_waysOfRings_L5]
        rw [if_neg (by rw [nI_lt_i (by omega) (by omega)]; omega), nI_i64 (by omega), lN_mul, ob, ob, nI_1]
        rfl
      · simp only [f_X10_waysOfRings_L5]
        rw [if_pos (nI_lt (by omega) (by omega)), show S - 1 + 1 = S by omega]
  unfold f_X10_waysOfRings f_X10_waysOfRings_J23
  rw [if_pos (by rw [mk_0 h]), f1, ob]
  refine whl_b 19 (fun m => (lN (rgF C (fct S) m), nI (m + 2))) rfl (fun m hm => ?_) ?_
  · have hv := rgF_le C (fct S) m
    have hc := hC2 (m + 2)
    have inner : whl (f_X10_waysOfRings_L39 X (nI (m + 2)) μ) (lN (rgF C (fct S) m), (1 : Int32)) = some (lN (rgF C (fct S) (m + 1))) := by
      refine whl_c (C (m + 2)) (fun k => (lN (rgF C (fct S) m / ((m + 2) ^ k * fct k)), nI (k + 1))) (by show _ = (lN (_ / (1 * 1)), _); rw [Nat.mul_one, Nat.div_one]; rfl) (fun k hk => ?_) ?_
      · have hd : rgF C (fct S) m / ((m + 2) ^ k * fct k) ≤ rgF C (fct S) m := Nat.div_le_self _ _
        have hd2 : rgF C (fct S) m / ((m + 2) ^ k * fct k) / (m + 2) ≤ rgF C (fct S) m / ((m + 2) ^ k * fct k) := Nat.div_le_self _ _
        simp only [f_X10_waysOfRings_L39]
        rw [rp_0_11 h, ob, ra_19 h (by omega), ob, hC _ (by omega), if_neg (by rw [nI_lt_i (by omega) (by omega)]; omega), nI_i64 (by omega), nI_i64 (by omega), if_neg (lN_nz (by omega) (by omega)), if_neg (lN_nz (by omega) (by omega)), lN_div (by omega) (by omega), lN_div (by omega) (by omega), ob, ob, nI_1, Nat.div_div_eq_div_mul, Nat.div_div_eq_div_mul]
        have : (m + 2) ^ k * fct k * ((m + 2) * (k + 1)) = (m + 2) ^ (k + 1) * fct (k + 1) := by
          rw [Nat.pow_succ]
          show _ = (m + 2) ^ k * (m + 2) * (fct k * (k + 1))
          rw [Nat.mul_assoc, Nat.mul_assoc]
          congr 1
          rw [← Nat.mul_assoc, ← Nat.mul_assoc, Nat.mul_comm (fct k) (m + 2)]
        rw [this]
      · simp only [f_X10_waysOfRings_L39]
        rw [rp_0_11 h, ob, ra_19 h (by omega), ob, hC _ (by omega), if_pos (nI_lt (by omega) (by omega))]
        rfl
    simp only [f_X10_waysOfRings_L26, f_X10_waysOfRings_J67]
    rw [rp_0_11 h, ob, ln_19 h, ob, if_neg (by rw [nI_le_i (by omega) (by omega)]; omega), inner, ob, ob, nI_1]
  · simp only [f_X10_waysOfRings_L26]
    rw [rp_0_11 h, ob, ln_19 h, ob, if_pos (nI_le (by omega) (by omega))]
theorem r_fct (hS : S ≤ 20) : f_X11_factorial (nI S) μ = some (lN (fct S)) := by
  unfold f_X11_factorial
  by_cases e : S = 0
  · subst e
    have : whl (f_X11_factorial_L4 (nI 0) μ) ((1 : Int64), (2 : Int32)) = some (lN (fct 0)) := by
      refine whl_r ?_
      simp only [f_X11_factorial_L4]
      rw [if_pos (by decide)]; rfl
    rw [this, ob]
  · refine whl_b (S - 1) (fun k => (lN (fct (k + 1)), nI (k + 2))) (b := lN (fct S)) rfl (fun k hk => ?_) ?_
    · simp only [f_X11_factorial_L4]
      rw [if_neg (by rw [nI_lt_i (by omega) (by omega)]; omega), nI_i64 (by omega), lN_mul, ob, ob, nI_1]
      rfl
    · simp only [f_X11_factorial_L4]
      rw [if_pos (nI_lt (by omega) (by omega)), show S - 1 + 1 = S by omega]
theorem r_ways (h : Sh X μ) (hS : S ≤ 20) (hC : ∀ q, q < 21 → mm_I μ (X + 128) q = nI (C q)) (hC2 : ∀ q, C q ≤ 20) : f_X11_rings_J98 (X + 90) (nI S) μ = some (lN (rgF C (fct S) 19), μ) := by
  have hf := fct_20 S hS
  unfold f_X11_rings_J98
  rw [r_fct hS, ob]
  refine whl_b 19 (fun m => (lN (rgF C (fct S) m), nI (m + 2))) (b := lN (rgF C (fct S) 19)) rfl (fun m hm => ?_) ?_
  · have hv := rgF_le C (fct S) m
    have hc := hC2 (m + 2)
    have hfc := fct_20 (C (m + 2)) hc
    have hfp := fct_pos (C (m + 2))
    have inner : whl (f_X11_rings_L116 (X + 90) (nI (m + 2)) μ) (lN (rgF C (fct S) m), (0 : Int32)) = some (lN (rgF C (fct S) m / (m + 2) ^ C (m + 2))) := by
      refine whl_c (C (m + 2)) (fun k => (lN (rgF C (fct S) m / (m + 2) ^ k), nI k)) (by show _ = (lN (_ / 1), _); rw [Nat.div_one]; rfl) (fun k hk => ?_) ?_
      · have hd : rgF C (fct S) m / (m + 2) ^ k ≤ rgF C (fct S) m := Nat.div_le_self _ _
        simp only [f_X11_rings_L116]
        rw [rp_90_62 h, ob, ra_128 h (by omega), ob, hC _ (by omega), if_neg (by rw [nI_le_i (by omega) (by omega)]; omega), nI_i64 (by omega), if_neg (lN_nz (by omega) (by omega)), lN_div (by omega) (by omega), ob, ob, nI_1, Nat.div_div_eq_div_mul, ← Nat.pow_succ]
      · simp only [f_X11_rings_L116]
        rw [rp_90_62 h, ob, ra_128 h (by omega), ob, hC _ (by omega), if_pos (nI_le (Nat.le_refl _) (by omega))]
    have hd : rgF C (fct S) m / (m + 2) ^ C (m + 2) ≤ rgF C (fct S) m := Nat.div_le_self _ _
    simp only [f_X11_rings_L106, f_X11_rings_J140]
    rw [if_neg (by rw [show (20 : Int32) = nI 20 from rfl, nI_lt_i (by omega) (by omega)]; omega), inner, ob, rp_90_62 h, ob, ra_128 h (by omega), ob, hC _ (by omega), r_fct hc, ob, if_neg (lN_nz (by omega) hfc), lN_div (by omega) hfc, ob, ob, nI_1, Nat.div_div_eq_div_mul]
    rfl
  · simp only [f_X11_rings_L106]
    rw [if_pos (by decide)]
end TOK
