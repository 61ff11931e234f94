/-! ===== the best question: counting ===== -/
theorem flt_c (F P : Nat → Bool) : ∀ n, (flt F n).countP P = cntb (fun k => F k && P k) n := by
  intro n
  induction n with
  | zero => rfl
  | succ n ih =>
    show (flt F n ++ (if F n then [n] else [])).countP P = cntb (fun k => F k && P k) n + (F n && P n).toNat
    rw [List.countP_append, ih]
    cases F n with
    | false => rfl
    | true => cases e : P n <;> simp [e]
def cu (M : Nat → Nat) (l : List Nat) (m : Nat) : Nat := l.countP (fun x => decide (M x < m))
def ce (M : Nat → Nat) (l : List Nat) (m : Nat) : Nat := l.countP (fun x => M x == m)
theorem cu_s (M : Nat → Nat) (l : List Nat) (m : Nat) : cu M l (m + 1) = cu M l m + ce M l m := by
  unfold cu ce
  induction l with
  | nil => rfl
  | cons x l ih =>
    rw [List.countP_cons, List.countP_cons, List.countP_cons, ih]
    simp only [decide_eq_true_eq, beq_iff_eq]
    split <;> split <;> split <;> omega
theorem cu_0 (M : Nat → Nat) (l : List Nat) : cu M l 0 = 0 := by
  unfold cu
  induction l with
  | nil => rfl
  | cons x l ih =>
    rw [List.countP_cons, ih]
    simp
theorem ce_a (M : Nat → Nat) (l : List Nat) (x m : Nat) : ce M (l ++ [x]) m = ce M l m + if M x = m then 1 else 0 := by
  unfold ce
  rw [List.countP_append, List.countP_cons]
  simp only [List.countP_nil, beq_iff_eq, Nat.zero_add]
theorem cu_le (M : Nat → Nat) (l : List Nat) (m : Nat) : cu M l m ≤ l.length := List.countP_le_length
theorem ce_le (M : Nat → Nat) (l : List Nat) (m : Nat) : ce M l m ≤ l.length := List.countP_le_length
def oA (o : Option Nat) (w : Nat) : Int32 := match o with
  | none => -1
  | some j => nI (if w = 0 then j / 28 / 12 else if w = 1 then j / 28 % 12 else j % 28)
section ASK
variable {T : Tn} {A : Nat → Nat → Nat}
theorem askI_o (w : Nat) : askI T A w = oA (askS T A 2688).2 w := rfl
def mpx (T : Tn) (f p x : Nat) : Nat := momp T (dr T x) f p
theorem askN_e {p f day : Nat} (hf : f < 12) (hd : day < 28) : askN T A (28 * (12 * p + f) + day) = cu (mpx T f p) (flt (fits T A 999) (EN T).length) (2 * day + 1) := by
  unfold askN cu
  rw [flt_c, show (28 * (12 * p + f) + day) / 28 = 12 * p + f by omega, show (28 * (12 * p + f) + day) % 28 = day by omega, show (12 * p + f) % 12 = f by omega, show (12 * p + f) / 12 = p by omega]
  congr 1
  funext k
  congr 1
  have := momp_a (T := T) (d := dr T k) (f := f) (p := p) hd
  cases e : c_ahd T (dr T k) (Nat.testBit 7) (fun _ => false) f day p with
  | true => exact (decide_eq_true (by have := this.mpr e; unfold mpx; omega)).symm
  | false => exact (decide_eq_false (fun y => by
      unfold mpx at y
      have h := this.mp (by omega)
      rw [show c_ahd T (dr T k) w7 u0 f day p = _ from e] at h
      cases h)).symm
theorem askS_s (j : Nat) (h : j / 28 / 12 < T 0 0 ∧ j / 28 % 12 < T 0 1) : askS T A (j + 1) = if max (askN T A j) (cntb (fits T A 999) (EN T).length - askN T A j) < (askS T A j).1 then (max (askN T A j) (cntb (fits T A 999) (EN T).length - askN T A j), some j) else askS T A j := by
  show (if j / 28 / 12 < T 0 0 ∧ j / 28 % 12 < T 0 1 ∧ max (askN T A j) (cntb (fits T A 999) (EN T).length - askN T A j) < (askS T A j).1 then (max (askN T A j) (cntb (fits T A 999) (EN T).length - askN T A j), some j) else askS T A j) = _
  by_cases w : max (askN T A j) (cntb (fits T A 999) (EN T).length - askN T A j) < (askS T A j).1
  · rw [if_pos ⟨h.1, h.2, w⟩, if_pos w]
  · rw [if_neg (fun y => w y.2.2), if_neg w]
theorem askS_k {a : Nat} : ∀ k, (∀ j, a ≤ j → j < a + k → ¬ (j / 28 / 12 < T 0 0 ∧ j / 28 % 12 < T 0 1)) → askS T A (a + k) = askS T A a := by
  intro k
  induction k with
  | zero => intro _; rfl
  | succ k ih =>
    intro h
    show (if (a + k) / 28 / 12 < T 0 0 ∧ (a + k) / 28 % 12 < T 0 1 ∧ max (askN T A (a + k)) (cntb (fits T A 999) (EN T).length - askN T A (a + k)) < (askS T A (a + k)).1 then (max (askN T A (a + k)) (cntb (fits T A 999) (EN T).length - askN T A (a + k)), some (a + k)) else askS T A (a + k)) = _
    rw [if_neg (fun y => h (a + k) (by omega) (by omega) ⟨y.1, y.2.1⟩)]
    exact ih (fun j h1 h2 => h j h1 (by omega))
theorem askS_b : ∀ j, (askS T A j).1 ≤ cntb (fits T A 999) (EN T).length := by
  intro j
  induction j with
  | zero => exact Nat.le_refl _
  | succ j ih =>
    show (if j / 28 / 12 < T 0 0 ∧ j / 28 % 12 < T 0 1 ∧ max (askN T A j) (cntb (fits T A 999) (EN T).length - askN T A j) < (askS T A j).1 then (max (askN T A j) (cntb (fits T A 999) (EN T).length - askN T A j), some j) else askS T A j).1 ≤ _
    split
    · rename_i y
      exact Nat.le_trans (Nat.le_of_lt y.2.2) ih
    · exact ih
end ASK
/-! ===== the best question: the class ===== -/
section ASK
variable {X i c : Nat} {s : Sv} {μ ν ρ : Mm} {T : Tn} {A : Nat → Nat → Nat}
variable {Rw Ft nr fo : Nat} {Ml Ln : Nat → Nat}
def Gq (X : Nat) (μ ν : Mm) : Prop := mm_P ν = mm_P μ ∧ tl ν = tl μ ∧ mm_L ν = mm_L μ ∧ (∀ q, q ≠ X + 66 → q ≠ X + 80 → mm_I ν q = mm_I μ q) ∧ ∀ k, k < 12 ∨ 14 < k → mm_I ν (X + 66) k = mm_I μ (X + 66) k
theorem Gq_r : Gq X μ μ := ⟨rfl, rfl, rfl, fun _ _ _ => rfl, fun _ _ => rfl⟩
theorem Gq_80 {k : Nat} {v : Int32} (h : Gq X μ ν) : Gq X μ (ms_I ν (X + 80) k v) := ⟨h.1, h.2.1, h.2.2.1, fun q h1 h2 => by rw [iI, if_neg h2]; exact h.2.2.2.1 q h1 h2, fun j hj => by rw [rI, if_neg (by omega)]; exact h.2.2.2.2 j hj⟩
theorem Gq_A {f : Nat → Int32} (h : Gq X μ ν) : Gq X μ (ms_A ν (X + 80) f) := ⟨h.1, h.2.1, h.2.2.1, fun q h1 h2 => by rw [iA, if_neg h2]; exact h.2.2.2.1 q h1 h2, fun j hj => by rw [iA, if_neg (by omega)]; exact h.2.2.2.2 j hj⟩
theorem Gq_66 {k : Nat} {v : Int32} (hk : k = 12 ∨ k = 13 ∨ k = 14) (h : Gq X μ ν) : Gq X μ (ms_I ν (X + 66) k v) := ⟨h.1, h.2.1, h.2.2.1, fun q h1 h2 => by rw [iI, if_neg h1]; exact h.2.2.2.1 q h1 h2, fun j hj => by rw [rI, if_neg (by omega)]; exact h.2.2.2.2 j hj⟩
theorem Gq_z (h : Gq X μ ν) : FrZ X μ ν := ⟨⟨tl_S h.2.1, by rw [tl_N h.2.1]; exact Nat.le_refl _, fun a _ => by rw [tl_K h.2.1]⟩, fun q k _ _ _ => by rw [h.1], fun q _ _ _ _ h4 h5 _ _ _ => h.2.2.2.1 q h4 h5, fun q _ => by rw [h.2.2.1]⟩
theorem Gq_fs {F : Nat → Bool} (h : Gq X μ ν) (z : FS X T F Rw Ft nr fo Ml Ln μ) : FS X T F Rw Ft nr fo Ml Ln ν := by
  have hFt := z.1.1.2.2.2.2.2.2.2.1
  refine ⟨cz_x h.1 h.2.1 ⟨h.2.2.2.2 9 (by omega), h.2.2.2.2 10 (by omega)⟩ (fun q hq _ => h.2.2.2.1 q (by omega) (by omega)) (fun q _ => by rw [h.2.2.1]) z.1, by rw [h.2.2.2.2 8 (by omega)]; exact z.2.1, fun j hj => ?_⟩
  rw [h.2.2.2.1 Ft (by omega) (by omega)]
  exact z.2.2 j hj
/-- the answers so far -/
def FA (X : Nat) (T : Tn) (A : Nat → Nat → Nat) (j : Nat) (μ : Mm) : Prop := mm_I μ (X + 66) 12 = oA (askS T A j).2 0 ∧ mm_I μ (X + 66) 13 = oA (askS T A j).2 1 ∧ mm_I μ (X + 66) 14 = oA (askS T A j).2 2
theorem FA_x {j : Nat} (h : mm_I ν (X + 66) = mm_I μ (X + 66)) (f : FA X T A j μ) : FA X T A j ν := by
  unfold FA at f ⊢
  rw [h]
  exact f
theorem FA_e {j k : Nat} (h : askS T A k = askS T A j) (f : FA X T A j μ) : FA X T A k μ := by
  unfold FA at f ⊢
  rw [h]
  exact f
theorem c_came {p f : Nat} (ok : OkT T) (hp : p < 8) (hf : fo.testBit f = true) (h : Sh X ν) (z : FS X T (fits T A 999) Rw Ft nr fo Ml Ln ν) (hpos : 0 < (EN T).length) {l2 l3 : Int32} (h0 : ∀ m, m < 56 → mm_I ν (X + 80) m = 0) : ∃ ρ, whl (f_X1_chooseDay_L18 (X + 66) (nI p) l2 l3 (Ml f)) ((0 : Int32), ν) = some ρ ∧ Gq X ν ρ ∧ mm_I ρ (X + 66) = mm_I ν (X + 66) ∧ ∀ m, m < 56 → mm_I ρ (X + 80) m = nI (ce (mpx T f p) (flt (fits T A 999) (EN T).length) m) := by
  have hl := EN_len ok
  have fl := flt_n (fits T A 999) (EN T).length
  have cl := cntb_le (fits T A 999) (EN T).length
  have nr5 := (z.1.2.2.2.2.1 (by omega)).1
  have nr14 := z.1.1.2.2.2.2.1
  refine whl_i (body := f_X1_chooseDay_L18 (X + 66) (nI p) l2 l3 (Ml f)) (flt (fits T A 999) (EN T).length).length (fun k (x : Int32 × Mm) => ∃ ρ, x = (nI k, ρ) ∧ Gq X ν ρ ∧ mm_I ρ (X + 66) = mm_I ν (X + 66) ∧ ∀ m, m < 56 → mm_I ρ (X + 80) m = nI (ce (mpx T f p) ((flt (fits T A 999) (EN T).length).take k) m)) (Q := fun ρ => Gq X ν ρ ∧ mm_I ρ (X + 66) = mm_I ν (X + 66) ∧ ∀ m, m < 56 → mm_I ρ (X + 80) m = nI (ce (mpx T f p) (flt (fits T A 999) (EN T).length) m)) (s0 := ((0 : Int32), ν)) ⟨ν, rfl, Gq_r, rfl, fun m hm => by rw [h0 m hm]; rfl⟩ ?_ ?_
  · rintro k x hk ⟨ρ, rfl, q1, q2, q3⟩
    have g := sh_x q1.1 q1.2.1 h
    have zr := Gq_fs q1 z
    obtain ⟨m1, m2⟩ := flt_m (List.getElem_mem hk)
    have ml := momp_256 T (dr T (flt (fits T A 999) (EN T).length)[k]) f p
    have tk1 : (flt (fits T A 999) (EN T).length).take (k + 1) = (flt (fits T A 999) (EN T).length).take k ++ [(flt (fits T A 999) (EN T).length)[k]] := by rw [List.take_succ, List.getElem?_eq_getElem hk]; rfl
    simp only [f_X1_chooseDay_L18, f_X1_chooseDay_J73]
    rw [rf_66 g, ob, zr.2.1, if_neg (by rw [nI_le_i (by omega) (by omega)]; omega), e_gfP (by rw [mk_66 g]) zr.1.1.2.1, ob, e_len zr.1.1.2.2.2.1 ⟨by decide, by decide⟩, ob, if_neg (by rw [nI_le_i (by omega) (by omega)]; omega), ob, e_gaI zr.1.1.2.2.2.1 (by omega) (by omega), ob, zr.2.2 k hk, z_mom zr.1 hf m1 hp, ob, rp_66_3 g, ob, ln_80 g, ob]
    by_cases w : 56 ≤ momp T (dr T (flt (fits T A 999) (EN T).length)[k]) f p
    · refine ⟨_, by rw [if_pos (by rw [nI_le_i (by omega) (by omega)]; exact w), ob, nI_1], ρ, rfl, q1, q2, fun m hm => ?_⟩
      rw [tk1, ce_a, if_neg (by unfold mpx; omega)]
      exact q3 m hm
    · refine ⟨_, by rw [if_neg (by rw [nI_le_i (by omega) (by omega)]; exact w), ob, ra_80 g (by omega), ob, q3 _ (by omega), wa_80 g _ (by omega), ob, ob, nI_1, nI_1], _, rfl, Gq_80 q1, by rw [iI, if_neg (by omega)]; exact q2, fun m hm => ?_⟩
      rw [tk1, ce_a, rI]
      by_cases y : m = momp T (dr T (flt (fits T A 999) (EN T).length)[k]) f p
      · rw [if_pos ⟨rfl, y⟩, if_pos (by unfold mpx; omega), ← y]
      · rw [if_neg (fun u => y u.2), if_neg (by unfold mpx; omega)]
        exact q3 m hm
  · rintro x ⟨ρ, rfl, q1, q2, q3⟩
    have g := sh_x q1.1 q1.2.1 h
    have zr := Gq_fs q1 z
    rw [List.take_length] at q3
    refine ⟨ρ, ?_, q1, q2, q3⟩
    simp only [f_X1_chooseDay_L18]
    rw [rf_66 g, ob, zr.2.1, if_pos (nI_le (Nat.le_refl _) (by omega))]
end ASK
