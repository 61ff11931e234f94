/-! ===== skill ===== -/
theorem nI_div4 {a : Nat} (h : a < 2 ^ 31) : nI a / (4 : Int32) = nI (a / 4) := by
  apply Int32.toInt_inj.mp
  rw [Int32.toInt_div, nI_toInt h, nI_toInt (by omega), show (4 : Int32).toInt = ((4 : Nat) : Int) from rfl, show ((a : Int).tdiv ((4 : Nat) : Int)) = ((a / 4 : Nat) : Int) from rfl]
  simp only [Int.bmod]
  split <;> omega
theorem sub_le0 {a w : Nat} (ha : a < 2 ^ 30) (hw : w < 2 ^ 30) (h : a ≤ w) : nI a - nI w ≤ 0 := by
  rw [Int32.le_iff_toInt_le, Int32.toInt_sub, nI_toInt (by omega), nI_toInt (by omega), show (0 : Int32).toInt = 0 from rfl]
  simp only [Int.bmod]
  split <;> omega
theorem cap_c {a : Nat} (h : a < 2 ^ 31) : (if nI a < (9999 : Int32) then nI a else (9999 : Int32)) = nI (min a 9999) := by
  rw [show (9999 : Int32) = nI 9999 from rfl]
  simp only [nI_lt_i h (show 9999 < 2 ^ 31 by decide)]
  by_cases e : a < 9999
  · rw [if_pos e, Nat.min_eq_left (by omega)]
  · rw [if_neg e, Nat.min_eq_right (by omega)]
theorem cap_r {a : Nat} {μ : Mm} (h : a < 2 ^ 31) : f_X11_within (nI a) μ = some (nI (min a 9999)) := by
  unfold f_X11_within
  rw [show (9999 : Int32) = nI 9999 from rfl]
  simp only [nI_le_i h (show 9999 < 2 ^ 31 by decide)]
  by_cases e : a ≤ 9999
  · rw [if_pos e, Nat.min_eq_left (by omega)]
  · rw [if_neg e, Nat.min_eq_right (by omega)]
def skW (T : Tn) (V : Nat → Nat) (p : Nat) : Nat := min (V p + T 16 p) 9999
def skG (T : Tn) (t day : Nat) (W : Nat → Nat) (p : Nat) : Nat := if dr T t p ≠ 15 ∧ dl T (dr T t p) day = false then (W (dr T t p) - W p) / 4 else 0
def skS (T : Tn) (t day : Nat) (V : Nat → Nat) (p : Nat) : Nat := min (skW T V p + skG T t day (skW T V) p) 9999
def skV (T : Tn) (t : Nat) : Nat → Nat → Nat
  | 0 => fun _ => 0
  | k + 1 => skS T t k (skV T t k)
theorem skV_le (T : Tn) (t : Nat) : ∀ k p, skV T t k p ≤ 9999 := by
  intro k p
  cases k with
  | zero => exact Nat.zero_le _
  | succ k => exact Nat.min_le_right _ _
theorem skW_le (T : Tn) (V : Nat → Nat) (p : Nat) : skW T V p ≤ 9999 := Nat.min_le_right _ _
section CALLS
variable {b L : Nat} {xs : Nat → Int32} {X i c : Nat} {s : Sv} {μ : Mm}
theorem IC_sc {a k : Nat} {v : Int32} (ha : scr X a) (h : IC X i c s μ) : IC X i c s (ms_I μ a k v) ∧ ChC X μ (ms_I μ a k v) := by
  unfold scr at ha
  refine ⟨IC_scr (by rfl) (by rfl) (fun q g1 g2 g3 => ?_) ?_ (fun _ _ _ _ => by rfl) h, ChC_I (by unfold inM; omega) (by omega)⟩
  · rw [iI, if_neg (show ¬ q = a from fun e => g1 (by unfold scr; omega))]
  · rw [rI, if_neg (by omega)]
theorem IR_sc {a k : Nat} {v : Int32} (ha : scM X a) (h : IR X s μ) : IR X s (ms_I μ a k v) ∧ ChM X μ (ms_I μ a k v) := by
  unfold scM at ha
  refine ⟨IR_scr h.1 (fun k hk => ?_) (by rfl) (fun q g1 g2 g3 => ?_) (fun _ _ _ _ => by rfl) h, ChM_I (by unfold inM; omega)⟩
  · rw [rI, if_neg (by omega)]
  · rw [iI, if_neg (show ¬ q = a from fun e => g2 (by unfold scM; omega))]
theorem c_prac1 {V : Nat → Nat} {l2 : Int32} (h : IC X i c s μ) (hV : ∀ q, q < s.1 0 0 → mm_I μ (X + 17) q = nI (V q)) (hV9 : ∀ q, V q ≤ 9999) : ∃ ν, whl (f_X10_practise_L11 X l2) ((0 : Int32), μ) = some ν ∧ IC X i c s ν ∧ ChC X μ ν ∧ (∀ q, q < s.1 0 0 → mm_I ν (X + 17) q = nI (V q)) ∧ ∀ q, q < s.1 0 0 → mm_I ν (X + 18) q = nI (skW s.1 V q) := by
  have hn := h.2.1.1.1.1
  have key := whl_i (body := f_X10_practise_L11 X l2) (s.1 0 0) (fun p (st : Int32 × Mm) => ∃ ν, st = (nI p, ν) ∧ IC X i c s ν ∧ ChC X μ ν ∧ (∀ q, q < s.1 0 0 → mm_I ν (X + 17) q = nI (V q)) ∧ ∀ q, q < p → mm_I ν (X + 18) q = nI (skW s.1 V q)) (Q := fun ν => IC X i c s ν ∧ ChC X μ ν ∧ (∀ q, q < s.1 0 0 → mm_I ν (X + 17) q = nI (V q)) ∧ ∀ q, q < s.1 0 0 → mm_I ν (X + 18) q = nI (skW s.1 V q)) (s0 := ((0 : Int32), μ)) ⟨μ, rfl, h, ChC_r _ _, hV, fun q hq => by omega⟩ ?_ ?_
  · exact key
  · rintro p st hp1 ⟨ν, rfl, e1, e2, e3, e4⟩
    have h1 := e1.1.1
    have hw := cb_w e1.1
    have hp := cb_p e1.1
    have hct := e1.2.1.2.2.1
    have h16 := e1.2.1.1.2.2.2.2.2.2.2.2.2 p (by omega)
    have hv := hV9 p
    refine ⟨(nI (p + 1), ms_I ν (X + 18) p (nI (skW s.1 V p))), ?_, _, rfl, (IC_sc (by unfold scr; omega) e1).1, ChC_t e2 (IC_sc (by unfold scr; omega) e1).2, fun q hq => ?_, fun q hq => ?_⟩
    · simp only [f_X10_practise_L11]
      rw [hp, ob, ct_n hw hct, ob, if_neg (by rw [nI_le_i (by omega) (by omega)]; omega), rp_0_10 h1, ob, rp_0_9 h1, ob, ra_17 h1 (by omega), ob, e3 p hp1, ob, tc_p2 hw, ob, tc_a3 hw (by omega), ob, hct.2.2.2.2.2.2.2.2 p (by omega), nI_add, cap_c (by omega), wa_18 h1 _ (by omega), ob, ob, nI_1]
      rfl
    · rw [rI, if_neg (by omega)]; exact e3 q hq
    · rw [rI]
      by_cases e : q = p
      · rw [if_pos ⟨rfl, e⟩, e]
      · rw [if_neg (fun q' => e q'.2)]; exact e4 q (by omega)
  · rintro st ⟨ν, rfl, e1, e2, e3, e4⟩
    refine ⟨ν, ?_, e1, e2, e3, e4⟩
    simp only [f_X10_practise_L11]
    rw [cb_p e1.1, ob, ct_n (cb_w e1.1) e1.2.1.2.2.1, ob, if_pos (nI_le (Nat.le_refl _) (by omega))]
theorem c_134 {l2 : Int32} {p w : Nat} {k0 : Int32} {g : Nat} (h : Sh X μ) (hp : p < 8) (hw : w ≤ 9999) (hk : (k0 ≤ 0 ∧ g = 0) ∨ (¬ k0 ≤ 0 ∧ k0 / 4 = nI g ∧ g ≤ 9999)) : f_X10_practise_J134 X l2 (nI p) (nI w) k0 μ = some (.inl (nI (p + 1), ms_I μ (X + 17) p (nI (min (w + g) 9999)))) := by
  unfold f_X10_practise_J134 f_X10_practise_J164
  rw [rp_0_9 h, ob]
  rcases hk with ⟨k1, k2⟩ | ⟨k1, k2, k3⟩
  · rw [if_pos k1, wa_17 h _ hp, ob, ob, nI_1, k2, Nat.min_eq_left (by omega)]
    rfl
  · rw [if_neg k1, k2, nI_add, cap_c (by omega), wa_17 h _ hp, ob, ob, nI_1]
theorem sk_k {a w : Nat} (ha : a ≤ 9999) (hw : w ≤ 9999) : (nI a - nI w ≤ 0 ∧ (a - w) / 4 = 0) ∨ (¬ nI a - nI w ≤ 0 ∧ (nI a - nI w) / 4 = nI ((a - w) / 4) ∧ (a - w) / 4 ≤ 9999) := by
  by_cases e : a ≤ w
  · left
    exact ⟨sub_le0 (by omega) (by omega) e, by rw [Nat.sub_eq_zero_of_le e]⟩
  · right
    rw [pk_sub (by omega), nI_div4 (by omega)]
    refine ⟨?_, rfl, by omega⟩
    rw [show (0 : Int32) = nI 0 from rfl, nI_le_i (by omega) (by omega)]
    omega
theorem c_prac2 {V : Nat → Nat} {day : Nat} (h : IC X i c s μ) (hV : ∀ q, q < s.1 0 0 → mm_I μ (X + 18) q = nI (skW s.1 V q)) : ∃ ν, whl (f_X10_practise_L58 X (nI (bm (fun p => dl s.1 p day) 8))) ((0 : Int32), μ) = some ν ∧ IC X i c s ν ∧ ChC X μ ν ∧ ∀ q, q < s.1 0 0 → mm_I ν (X + 17) q = nI (skS s.1 s.2.1 day V q) := by
  have hn := h.2.1.1.1.1
  have key := whl_i (body := f_X10_practise_L58 X (nI (bm (fun p => dl s.1 p day) 8))) (s.1 0 0) (fun p (st : Int32 × Mm) => ∃ ν, st = (nI p, ν) ∧ IC X i c s ν ∧ ChC X μ ν ∧ (∀ q, q < s.1 0 0 → mm_I ν (X + 18) q = nI (skW s.1 V q)) ∧ ∀ q, q < p → mm_I ν (X + 17) q = nI (skS s.1 s.2.1 day V q)) (Q := fun ν => IC X i c s ν ∧ ChC X μ ν ∧ ∀ q, q < s.1 0 0 → mm_I ν (X + 17) q = nI (skS s.1 s.2.1 day V q)) (s0 := ((0 : Int32), μ)) ⟨μ, rfl, h, ChC_r _ _, hV, fun q hq => by omega⟩ ?_ ?_
  · exact key
  · rintro p st hp1 ⟨ν, rfl, e1, e2, e3, e4⟩
    have h1 := e1.1.1
    have hw := cb_w e1.1
    have hp := cb_p e1.1
    obtain ⟨ok, ht, hct, -, -, h15⟩ := e1.2.1
    have rg := dr_Rg ok ht
    have w9 := skW_le s.1 V
    refine ⟨(nI (p + 1), ms_I ν (X + 17) p (nI (skS s.1 s.2.1 day V p))), ?_, _, rfl, (IC_sc (by unfold scr; omega) e1).1, ChC_t e2 (IC_sc (by unfold scr; omega) e1).2, fun q hq => ?_, fun q hq => ?_⟩
    · simp only [f_X10_practise_L58, f_X10_practise_J112]
      rw [hp, ob, ct_n hw hct, ob, if_neg (by rw [nI_le_i (by omega) (by omega)]; omega), rp_0_10 h1, ob, ra_18 h1 (by omega), ob, e3 p hp1, rf_0 h1, ob, h15, e_dreamOf (cr_lt _ _) (by omega), ob, dr_nb (by omega), ob, e_isPerson' hw hct ok, ob, bz_if]
      unfold skS skG
      cases ea : (s.1 0 7).testBit p with
      | true =>
        have hd := rg.2.1 p hp1 ea
        rw [if_neg (fun q => by rw [hd] at q; exact absurd q.1 (by decide)), if_neg (fun q => q.1 hd)]
        unfold f_X10_practise_J113
        rw [if_pos rfl]
        exact c_134 h1 (by omega) (w9 p) (Or.inl ⟨by decide, rfl⟩)
      | false =>
        have hd := (rg.2.2.1 p hp1 ea).1
        have hdI : dI (dr s.1 s.2.1 p) = nI (dr s.1 s.2.1 p) := if_neg (by omega)
        rw [hdI, if_pos (inR_nI hd (by omega)), bmb (by omega) (by decide)]
        cases ed : dl s.1 (dr s.1 s.2.1 p) day with
        | true =>
          rw [if_neg (by decide), if_neg (fun q => by cases q.2)]
          unfold f_X10_practise_J113
          rw [if_pos rfl]
          exact c_134 h1 (by omega) (w9 p) (Or.inl ⟨by decide, rfl⟩)
        | false =>
          rw [if_pos (show nI false.toNat = 0 from rfl), if_pos ⟨by omega, rfl⟩]
          unfold f_X10_practise_J113
          rw [if_neg (by decide), rp_0_10 h1, ob, ra_18 h1 (by omega), ob, e3 _ hd]
          exact c_134 h1 (by omega) (w9 p) (sk_k (w9 _) (w9 _))
    · rw [rI, if_neg (by omega)]; exact e3 q hq
    · rw [rI]
      by_cases e : q = p
      · rw [if_pos ⟨rfl, e⟩, e]
      · rw [if_neg (fun q' => e q'.2)]; exact e4 q (by omega)
  · rintro st ⟨ν, rfl, e1, e2, e3, e4⟩
    refine ⟨ν, ?_, e1, e2, e4⟩
    simp only [f_X10_practise_L58]
    rw [cb_p e1.1, ob, ct_n (cb_w e1.1) e1.2.1.2.2.1, ob, if_pos (nI_le (Nat.le_refl _) (by omega))]
theorem c_prac {V : Nat → Nat} {day : Nat} (h : IC X i c s μ) (hd : day < 28) (hV : ∀ q, q < s.1 0 0 → mm_I μ (X + 17) q = nI (V q)) (hV9 : ∀ q, V q ≤ 9999) : ∃ ν, f_X10_practise X (nI day) μ = some ν ∧ IC X i c s ν ∧ ChC X μ ν ∧ ∀ q, q < s.1 0 0 → mm_I ν (X + 17) q = nI (skS s.1 s.2.1 day V q) := by
  obtain ⟨ν, a1, a2, a3, a4, a5⟩ := c_prac1 (l2 := nI (bm (fun p => dl s.1 p day) 8)) h hV hV9
  obtain ⟨π, b1, b2, b3, b4⟩ := c_prac2 (day := day) a2 a5
  refine ⟨π, ?_, b2, ChC_t a3 b3, b4⟩
  unfold f_X10_practise f_X10_practise_J56
  rw [if_pos (by rw [mk_0 h.1.1]), cb_p h.1, ob, e_dullOn (cb_w h.1) h.2.1.2.2.1 h.2.1.1 (by omega), ob, a1, ob, b1, ob]
theorem c_skill {a d : Nat} (h : IC X i c s μ) (ha : a < s.1 0 0) (hd : d < 28) : ∃ ν, f_X10_skill X (nI a) (nI d) μ = some (nI (skV s.1 s.2.1 (d + 1) a), ν) ∧ IC X i c s ν ∧ ChC X μ ν := by
  have h1 := h.1.1
  have hn := h.2.1.1.1.1
  have hI0 : IC X i c s (ms_A μ (X + 17) (fun j => if j < 8 then 0 else mm_I μ (X + 17) j)) ∧ ChC X μ (ms_A μ (X + 17) (fun j => if j < 8 then 0 else mm_I μ (X + 17) j)) := by
    refine ⟨IC_scr (by rfl) (by rfl) (fun q g1 g2 g3 => ?_) ?_ (fun _ _ _ _ => by rfl) h, fun q hq => ?_, fun _ _ => by rfl, fun q hq => ⟨?_, rfl⟩⟩
    · rw [iA, if_neg (show ¬ q = X + 17 from fun e => g1 (by unfold scr; omega))]
    · rw [iA, if_neg (by omega)]
    · rw [iA, if_neg (by unfold inM at hq; omega)]
    · rw [iA, if_neg (by omega)]
  unfold f_X10_skill
  rw [if_pos (by rw [mk_0 h1]), cb_p h.1, ob, e_isPerson' (cb_w h.1) h.2.1.2.2.1 h.2.1.1, ob, bz_if, if_pos (inR_nI ha (by omega)), c_isDay, ob, bz_if, if_pos (inR_nI hd (by decide)), rp_0_9 h1, ob, e_fillI (mk_17 h1) (by decide), ob]
  have key := whl_i (body := f_X10_skill_L31 X (nI a) (nI d)) (d + 1) (fun k (st : Int32 × Mm) => ∃ ν, st = (nI k, ν) ∧ IC X i c s ν ∧ ChC X μ ν ∧ ∀ q, q < s.1 0 0 → mm_I ν (X + 17) q = nI (skV s.1 s.2.1 k q)) (Q := fun ν => IC X i c s ν ∧ ChC X μ ν ∧ ∀ q, q < s.1 0 0 → mm_I ν (X + 17) q = nI (skV s.1 s.2.1 (d + 1) q)) (s0 := ((0 : Int32), ms_A μ (X + 17) (fun j => if j < 8 then 0 else mm_I μ (X + 17) j))) ⟨_, rfl, hI0.1, hI0.2, fun q hq => by rw [iA, if_pos rfl, if_pos (by omega)]; rfl⟩ ?_ ?_
  · obtain ⟨ν, k1, k2, k3, k4⟩ := key
    refine ⟨ν, ?_, k2, k3⟩
    rw [k1, ob]
    unfold f_X10_skill_J53
    rw [rp_0_9 k2.1.1, ob, ra_17 k2.1.1 (by omega), ob, k4 a ha]
  · rintro k st hk ⟨ν, rfl, e1, e2, e3⟩
    obtain ⟨π, b1, b2, b3, b4⟩ := c_prac (day := k) e1 (by omega) e3 (skV_le s.1 s.2.1 k)
    refine ⟨(nI (k + 1), π), ?_, π, rfl, b2, ChC_t e2 b3, b4⟩
    simp only [f_X10_skill_L31]
    rw [if_neg (by rw [nI_lt_i (by omega) (by omega)]; omega), if_neg (by rw [show (28 : Int32) = nI 28 from rfl, nI_le_i (by omega) (by omega)]; omega), b1, ob, ob, nI_1]
  · rintro st ⟨ν, rfl, e1, e2, e3⟩
    refine ⟨ν, ?_, e1, e2, e3⟩
    simp only [f_X10_skill_L31]
    rw [if_pos (nI_lt (by omega) (by omega))]
theorem r_prac1 {V : Nat → Nat} {l1 l2 l3 : Int32} (ok : OkT s.1) (h : IR X s μ) (hV : ∀ q, q < s.1 0 0 → mm_I μ (X + 127) q = nI (V q)) (hV9 : ∀ q, V q ≤ 9999) : ∃ ν, whl (f_X11_skill_L49 (X + 90) l1 l2 l3) ((0 : Int32), μ) = some ν ∧ IR X s ν ∧ ChM X μ ν ∧ ∀ q, q < s.1 0 0 → mm_I ν (X + 127) (8 + q) = nI (skW s.1 V q) := by
  have hn := ok.1.1
  have key := whl_i (body := f_X11_skill_L49 (X + 90) l1 l2 l3) (s.1 0 0) (fun p (st : Int32 × Mm) => ∃ ν, st = (nI p, ν) ∧ IR X s ν ∧ ChM X μ ν ∧ (∀ q, q < s.1 0 0 → mm_I ν (X + 127) q = nI (V q)) ∧ ∀ q, q < p → mm_I ν (X + 127) (8 + q) = nI (skW s.1 V q)) (Q := fun ν => IR X s ν ∧ ChM X μ ν ∧ ∀ q, q < s.1 0 0 → mm_I ν (X + 127) (8 + q) = nI (skW s.1 V q)) (s0 := ((0 : Int32), μ)) ⟨μ, rfl, h, ChM_r _ _, hV, fun q hq => by omega⟩ ?_ ?_
  · exact key
  · rintro p st hp1 ⟨ν, rfl, e1, e2, e3, e4⟩
    have h1 := e1.1
    have hm := e1.2.1.1
    have h16 := ok.2.2.2.2.2.2.2.2.2 p (by omega)
    have hv := hV9 p
    refine ⟨(nI (p + 1), ms_I ν (X + 127) (8 + p) (nI (skW s.1 V p))), ?_, _, rfl, (IR_sc (by unfold scM; omega) e1).1, ChM_t e2 (IR_sc (by unfold scM; omega) e1).2, fun q hq => ?_, fun q hq => ?_⟩
    · simp only [f_X11_skill_L49]
      rw [rp_90_12 h1, ob, mr_n0 h1 hm, ob, if_neg (by rw [nI_le_i (by omega) (by omega)]; omega), rp_90_61 h1, ob, ob, ra_127 h1 (by omega), ob, e3 p hp1, rp_90_29 h1, ob, mr_109 h1 hm (by omega), ob, nI_add, cap_r (by omega), ob, show (8 : Int32) = nI 8 from rfl, nI_add, wa_127 h1 _ (by omega), ob, ob, nI_1]
      rfl
    · rw [rI, if_neg (by omega)]; exact e3 q hq
    · rw [rI]
      by_cases e : q = p
      · rw [if_pos ⟨rfl, by omega⟩, e]
      · rw [if_neg (by omega)]; exact e4 q (by omega)
  · rintro st ⟨ν, rfl, e1, e2, e3, e4⟩
    refine ⟨ν, ?_, e1, e2, e4⟩
    simp only [f_X11_skill_L49]
    rw [rp_90_12 e1.1, ob, mr_n0 e1.1 e1.2.1.1, ob, if_pos (nI_le (Nat.le_refl _) (by omega))]
theorem r_165 {l1 l2 l3 : Int32} {p w : Nat} {k0 : Int32} {g : Nat} (h : Sh X μ) (hp : p < 8) (hw : w ≤ 9999) (h8 : mm_I μ (X + 127) (8 + p) = nI w) (hk : (k0 ≤ 0 ∧ g = 0) ∨ (¬ k0 ≤ 0 ∧ k0 / 4 = nI g ∧ g ≤ 9999)) : f_X11_skill_J165 (X + 90) l1 l2 l3 (nI p) k0 μ = some (.inl (nI (p + 1), ms_I μ (X + 127) p (nI (min (w + g) 9999)))) := by
  unfold f_X11_skill_J165 f_X11_skill_J196
  rw [rp_90_61 h, ob, ob, show (8 : Int32) = nI 8 from rfl, nI_add, ra_127 h (by omega), ob, h8]
  rcases hk with ⟨k1, k2⟩ | ⟨k1, k2, k3⟩
  · rw [if_pos k1, show (0 : Int32) = nI 0 from rfl, nI_add, cap_r (by omega), ob, wa_127 h _ (by omega), ob, ob, nI_1, k2]
  · rw [if_neg k1, k2, nI_add, cap_r (by omega), ob, wa_127 h _ (by omega), ob, ob, nI_1]
theorem r_prac2 {V : Nat → Nat} {l1 l2 : Int32} {day : Nat} (ok : OkT s.1) (ht : s.2.1 < (EN s.1).length) (hd28 : day < 28) (h : IR X s μ) (hV : ∀ q, q < s.1 0 0 → mm_I μ (X + 127) (8 + q) = nI (skW s.1 V q)) : ∃ ν, whl (f_X11_skill_L97 (X + 90) l1 l2 (nI day)) ((0 : Int32), μ) = some ν ∧ IR X s ν ∧ ChM X μ ν ∧ ∀ q, q < s.1 0 0 → mm_I ν (X + 127) q = nI (skS s.1 s.2.1 day V q) := by
  have hn := ok.1.1
  have key := whl_i (body := f_X11_skill_L97 (X + 90) l1 l2 (nI day)) (s.1 0 0) (fun p (st : Int32 × Mm) => ∃ ν, st = (nI p, ν) ∧ IR X s ν ∧ ChM X μ ν ∧ (∀ q, q < s.1 0 0 → mm_I ν (X + 127) (8 + q) = nI (skW s.1 V q)) ∧ ∀ q, q < p → mm_I ν (X + 127) q = nI (skS s.1 s.2.1 day V q)) (Q := fun ν => IR X s ν ∧ ChM X μ ν ∧ ∀ q, q < s.1 0 0 → mm_I ν (X + 127) q = nI (skS s.1 s.2.1 day V q)) (s0 := ((0 : Int32), μ)) ⟨μ, rfl, h, ChM_r _ _, hV, fun q hq => by omega⟩ ?_ ?_
  · exact key
  · rintro p st hp1 ⟨ν, rfl, e1, e2, e3, e4⟩
    have h1 := e1.1
    have hm := e1.2.1.1
    have rg := dr_Rg ok ht
    have w9 := skW_le s.1 V
    have h37 : mm_I ν (X + 90) 37 = nI (bm (fun _ => false) 8) := by rw [← bm_0]; exact e1.2.1.2.2.2.2.1
    refine ⟨(nI (p + 1), ms_I ν (X + 127) p (nI (skS s.1 s.2.1 day V p))), ?_, _, rfl, (IR_sc (by unfold scM; omega) e1).1, ChM_t e2 (IR_sc (by unfold scM; omega) e1).2, fun q hq => ?_, fun q hq => ?_⟩
    · simp only [f_X11_skill_L97, f_X11_skill_J140]
      rw [rp_90_12 h1, ob, mr_n0 h1 hm, ob, if_neg (by rw [nI_le_i (by omega) (by omega)]; omega), rp_90_34 h1, ob, rf_90 h1, ob, e1.2.1.2.2.2.1, r_row h1 e1.2.1 ok ht, ob, dr_R ok ht p hp1 ν, ob]
      unfold skS skG
      cases ea : (s.1 0 7).testBit p with
      | true =>
        have hd := rg.2.1 p hp1 ea
        rw [if_pos (by rw [hd]; rfl), if_neg (fun q => q.1 hd)]
        exact r_165 h1 (by omega) (w9 p) (e3 p hp1) (Or.inl ⟨by decide, rfl⟩)
      | false =>
        have hd := (rg.2.2.1 p hp1 ea).1
        have hdI : dI (dr s.1 s.2.1 p) = nI (dr s.1 s.2.1 p) := if_neg (by omega)
        rw [hdI, if_neg (nI_m1 (by omega)), e_isDull h1 hm ok h37 (by omega) hd28, ob, Bool.or_false]
        cases ed : dl s.1 (dr s.1 s.2.1 p) day with
        | true =>
          rw [if_neg (by decide), if_neg (fun q => by cases q.2)]
          exact r_165 h1 (by omega) (w9 p) (e3 p hp1) (Or.inl ⟨by decide, rfl⟩)
        | false =>
          rw [if_pos (show nI false.toNat = 0 from rfl), if_pos ⟨by omega, rfl⟩, rp_90_61 h1, ob, show (8 : Int32) = nI 8 from rfl, nI_add, ra_127 h1 (by omega), ob, ob, nI_add, ra_127 h1 (by omega), ob, e3 _ hd, e3 p hp1]
          exact r_165 h1 (by omega) (w9 p) (e3 p hp1) (sk_k (w9 _) (w9 _))
    · rw [rI, if_neg (by omega)]; exact e3 q hq
    · rw [rI]
      by_cases e : q = p
      · rw [if_pos ⟨rfl, e⟩, e]
      · rw [if_neg (fun q' => e q'.2)]; exact e4 q (by omega)
  · rintro st ⟨ν, rfl, e1, e2, e3, e4⟩
    refine ⟨ν, ?_, e1, e2, e4⟩
    simp only [f_X11_skill_L97]
    rw [rp_90_12 e1.1, ob, mr_n0 e1.1 e1.2.1.1, ob, if_pos (nI_le (Nat.le_refl _) (by omega))]
theorem r_skill {a d : Nat} (ok : OkT s.1) (ht : s.2.1 < (EN s.1).length) (h : IR X s μ) (ha : a < s.1 0 0) (hd : d < 28) : ∃ ν, f_X11_skill (X + 90) (nI a) (nI d) μ = some (nI (skV s.1 s.2.1 (d + 1) a), ν) ∧ IR X s ν ∧ ChM X μ ν := by
  have h1 := h.1
  have hn := ok.1.1
  have k0 := whl_i (body := f_X11_skill_L20 (X + 90) (nI a) (nI d)) 16 (fun k (st : Int32 × Mm) => ∃ ν, st = (nI k, ν) ∧ IR X s ν ∧ ChM X μ ν ∧ ∀ q, q < k → mm_I ν (X + 127) q = nI 0) (Q := fun ν => IR X s ν ∧ ChM X μ ν ∧ ∀ q, q < 16 → mm_I ν (X + 127) q = nI 0) (s0 := ((0 : Int32), μ)) ⟨μ, rfl, h, ChM_r _ _, fun q hq => by omega⟩ (by
    rintro k st hk ⟨ν, rfl, e1, e2, e3⟩
    refine ⟨(nI (k + 1), ms_I ν (X + 127) k (nI 0)), ?_, _, rfl, (IR_sc (by unfold scM; omega) e1).1, ChM_t e2 (IR_sc (by unfold scM; omega) e1).2, fun q hq => ?_⟩
    · simp only [f_X11_skill_L20]
      rw [if_neg (by rw [show (16 : Int32) = nI 16 from rfl, nI_le_i (by omega) (by omega)]; omega), rp_90_61 e1.1, ob, show (0 : Int32) = nI 0 from rfl, wa_127 e1.1 _ hk, ob, ob, nI_1]
    · rw [rI]
      by_cases e : q = k
      · rw [if_pos ⟨rfl, e⟩]
      · rw [if_neg (fun q' => e q'.2)]; exact e3 q (by omega)) (by
    rintro st ⟨ν, rfl, e1, e2, e3⟩
    refine ⟨ν, ?_, e1, e2, e3⟩
    simp only [f_X11_skill_L20]
    rw [if_pos (by decide)])
  obtain ⟨ν0, z1, z2, z3, z4⟩ := k0
  unfold f_X11_skill f_X11_skill_J39
  rw [if_pos (by rw [mk_90 h1]), r_isPerson h1 h.2.1.1 ok, ob, bz_if, if_pos (inR_nI ha (by omega)), r_isDay, ob, bz_if, if_pos (inR_nI hd (by decide)), z1, ob]
  have key := whl_i (body := f_X11_skill_L41 (X + 90) (nI a) (nI d)) (d + 1) (fun k (st : Int32 × Mm) => ∃ ν, st = (nI k, ν) ∧ IR X s ν ∧ ChM X μ ν ∧ ∀ q, q < s.1 0 0 → mm_I ν (X + 127) q = nI (skV s.1 s.2.1 k q)) (Q := fun ν => IR X s ν ∧ ChM X μ ν ∧ ∀ q, q < s.1 0 0 → mm_I ν (X + 127) q = nI (skV s.1 s.2.1 (d + 1) q)) (s0 := ((0 : Int32), ν0)) ⟨_, rfl, z2, z3, fun q hq => z4 q (by omega)⟩ ?_ ?_
  · obtain ⟨ν, k1, k2, k3, k4⟩ := key
    refine ⟨ν, ?_, k2, k3⟩
    rw [k1, ob]
    unfold f_X11_skill_J213
    rw [rp_90_61 k2.1, ob, ra_127 k2.1 (by omega), ob, k4 a ha]
  · rintro k st hk ⟨ν, rfl, e1, e2, e3⟩
    obtain ⟨π, b1, b2, b3, b4⟩ := r_prac1 (l1 := nI a) (l2 := nI d) (l3 := nI k) ok e1 e3 (skV_le s.1 s.2.1 k)
    obtain ⟨ρ, c1, c2, c3, c4⟩ := r_prac2 (l1 := nI a) (l2 := nI d) (day := k) ok ht (by omega) b2 b4
    refine ⟨(nI (k + 1), ρ), ?_, ρ, rfl, c2, ChM_t (ChM_t e2 b3) c3, c4⟩
    simp only [f_X11_skill_L41, f_X11_skill_J94, f_X11_skill_J207]
    rw [if_neg (by rw [nI_lt_i (by omega) (by omega)]; omega), b1, ob, c1, ob, ob, nI_1]
  · rintro st ⟨ν, rfl, e1, e2, e3⟩
    refine ⟨ν, ?_, e1, e2, e3⟩
    simp only [f_X11_skill_L41]
    rw [if_pos (nI_lt (by omega) (by omega))]
theorem k_skill (p d : Int32) (h0 : mm_K μ b = (19, L) ∧ mm_I μ b = xs ∧ b < X) (h : IC X i c s μ) (hR : IR X s μ) : ∃ r μ1 μ2, f_X10_skill X p d μ = some (r, μ1) ∧ f_X11_skill (X + 90) p d μ1 = some (r, μ2) ∧ Inv b L xs X (i + 1) μ2 ∧ (mm_K μ1 b = (19, L) ∧ mm_I μ1 b = xs) := by
  have h1 := h.1.1
  have ok := h.2.1.1
  have ht := h.2.1.2.1
  have hct := h.2.1.2.2.1
  have hn := ok.1.1
  by_cases e1 : inR p (s.1 0 0)
  · by_cases e2 : inR d 28
    · obtain ⟨⟨a, ha, rfl⟩, ⟨d0, hd, rfl⟩⟩ := And.intro (inR_ex e1 (by omega)) (inR_ex e2 (by decide))
      obtain ⟨ν, n1, n2, n3⟩ := c_skill h ha hd
      refine both h0 hR n1 (IC_up n2) n3 (fun hν => ?_)
      exact r_skill ok ht hν ha hd
    · have hC : f_X10_skill X p d μ = some (-2, μ) := by
        unfold f_X10_skill
        rw [if_pos (by rw [mk_0 h1]), cb_p h.1, ob, e_isPerson' (cb_w h.1) hct ok, ob, bz_if, if_pos e1, c_isDay, ob, bz_if, if_neg e2]
      refine both h0 hR hC (IC_up h) (ChC_r _ _) (fun hν => ⟨_, ?_, hν, ChM_r _ _⟩)
      unfold f_X11_skill
      rw [if_pos (by rw [mk_90 hν.1]), r_isPerson hν.1 hν.2.1.1 ok, ob, bz_if, if_pos e1, r_isDay, ob, bz_if, if_neg e2]
  · have hC : f_X10_skill X p d μ = some (-2, μ) := by
      unfold f_X10_skill
      rw [if_pos (by rw [mk_0 h1]), cb_p h.1, ob, e_isPerson' (cb_w h.1) hct ok, ob, bz_if, if_neg e1]
    refine both h0 hR hC (IC_up h) (ChC_r _ _) (fun hν => ⟨_, ?_, hν, ChM_r _ _⟩)
    unfold f_X11_skill
    rw [if_pos (by rw [mk_90 hν.1]), r_isPerson hν.1 hν.2.1.1 ok, ob, bz_if, if_neg e1]
end CALLS
