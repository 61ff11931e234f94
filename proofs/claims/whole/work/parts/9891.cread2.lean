/-! ===== a town's text: the class reads it all ===== -/
/-- a town of which nothing is told -/
def D0 : Tn := fun r k => if r = 0 ∧ k = 5 then 28 else 0
def S0 : Drf := (D0, fun _ => 0, fun _ => false)
theorem ok_D0 : OkT D0 := by
  have z : ∀ r k, r ≠ 0 → D0 r k = 0 := fun r k h => if_neg (fun q => h q.1)
  refine ⟨⟨by decide, by decide, by decide, by decide, by decide, by decide, by decide, by decide, by decide, by decide, by decide, by decide, by decide, by decide⟩, fun p _ => ⟨by rw [z 1 p (by decide)]; exact Nat.zero_le _, fun _ => z 1 p (by decide), fun h => absurd (z 1 p (by decide)) h⟩, fun p q _ _ h => absurd (z 1 p (by decide)) h, fun q => ?_, fun i hi => absurd hi (Nat.not_lt_zero _), fun i hi => absurd hi (Nat.not_lt_zero _), fun i hi => absurd hi (Nat.not_lt_zero _), fun i hi => absurd hi (Nat.not_lt_zero _), fun i hi => absurd hi (Nat.not_lt_zero _), fun p _ => by rw [z 16 p (by decide)]; decide⟩
  show (0 : Nat).testBit q = _
  rw [Nat.zero_testBit]
  symm
  refine anyb_f.mpr (fun p _ => ?_)
  rw [z 1 p (by decide)]
  simp
theorem one_ne {ν : Mm} : ¬ ((1 : Int32), ν).1 = 0 := by
  show ¬ (1 : Int32) = 0
  decide
section CRD
variable {X n x c : Nat} {B : Nat → Nat} {s : Drf} {μ ν ρ : Mm}
theorem e_clear (hc : TwS c (mm_K μ) (mm_P μ)) : ∃ ν, f_X7_clear c μ = some ν ∧ CTn c D0 ν ∧ (∀ q, q < c ∨ c + 14 ≤ q → mm_I ν q = mm_I μ q) := by
  have key : ∃ ν, f_X7_clear c μ = some ν ∧ ν = ms_A (ms_A (ms_I (ms_I (ms_I (ms_I (ms_I (ms_I (ms_I (ms_I (ms_I (ms_I (ms_I (ms_I (ms_I μ c 9 0) c 10 0) c 11 0) c 12 0) c 13 0) c 14 0) c 15 28) c 16 0) (c + 4) 1 0) (c + 6) 1 0) (c + 8) 1 0) (c + 10) 1 0) (c + 12) 1 0) (c + 2) (fun j => if j < 8 then -1 else mm_I μ (c + 2) j)) (c + 3) (fun j => if j < 8 then 0 else mm_I μ (c + 3) j) := by
    refine ⟨_, ?_, rfl⟩
    have hw : ∀ (ν : Mm) k v, mm_K ν = mm_K μ → pf_I 8 k c v ν = some (ms_I ν c k v) := fun ν k v h => e_pfI (by rw [h, hc.1])
    have hp : ∀ (ν : Mm) k z, mm_K ν = mm_K μ → mm_P ν = mm_P μ → mm_P μ c k = some z → gf_P 8 k c ν = some z := fun ν k z h h' e => e_gfP (by rw [h, hc.1]) (by rw [h']; exact e)
    have hr : ∀ (ν : Mm) q cap, mm_K ν = mm_K μ → RwS q cap (mm_K μ) (mm_P μ) → pf_I 3 1 q 0 ν = some (ms_I ν q 1 0) := fun ν q cap h e => e_pfI (by rw [h, e.1])
    have hf : ∀ (ν : Mm) q v, mm_K ν = mm_K μ → mm_K μ q = (20, 8) → f_J7_fill_53178 q v ν = some (ms_A ν q (fun j => if j < 8 then v else mm_I ν q j)) := fun ν q v h e => e_fillI (by rw [h]; exact e) (by decide)
    unfold f_X7_clear
    rw [if_pos (by rw [hc.1]), hw _ _ _ (by rfl), ob, hw _ _ _ (by rfl), ob, hw _ _ _ (by rfl), ob, hw _ _ _ (by rfl), ob, hw _ _ _ (by rfl), ob, hw _ _ _ (by rfl), ob, hw _ _ _ (by rfl), ob, hw _ _ _ (by rfl), ob]
    rw [hp _ 3 _ (by rfl) (by rfl) hc.2.2.2.1.1, ob, hr _ _ _ (by rfl) (tc_r4 hc), ob, hp _ 4 _ (by rfl) (by rfl) hc.2.2.2.2.1.1, ob, hr _ _ _ (by rfl) (tc_r6 hc), ob, hp _ 5 _ (by rfl) (by rfl) hc.2.2.2.2.2.1.1, ob, hr _ _ _ (by rfl) (tc_r8 hc), ob, hp _ 6 _ (by rfl) (by rfl) hc.2.2.2.2.2.2.1.1, ob, hr _ _ _ (by rfl) (tc_r10 hc), ob, hp _ 7 _ (by rfl) (by rfl) hc.2.2.2.2.2.2.2.1.1, ob, hr _ _ _ (by rfl) (tc_r12 hc), ob]
    rw [hp _ 1 _ (by rfl) (by rfl) hc.2.2.1.2.1, ob, hf _ _ _ (by rfl) (tc_k2 hc), ob, hp _ 2 _ (by rfl) (by rfl) hc.2.2.1.2.2, ob, hf _ _ _ (by rfl) (tc_k3 hc), ob]
    have n2 : ∀ k, k = 4 ∨ k = 6 ∨ k = 8 ∨ k = 10 ∨ k = 12 ∨ k = 0 → (c + 2 = c + k) = False := fun k hk => eq_false (by omega)
    have n3 : ∀ k, k = 4 ∨ k = 6 ∨ k = 8 ∨ k = 10 ∨ k = 12 ∨ k = 0 ∨ k = 2 → (c + 3 = c + k) = False := fun k hk => eq_false (by omega)
    have n20 : (c + 2 = c) = False := eq_false (by omega)
    have n30 : (c + 3 = c) = False := eq_false (by omega)
    simp only [iI, iA, n2 4 (by omega), n2 6 (by omega), n2 8 (by omega), n2 10 (by omega), n2 12 (by omega), n3 4 (by omega), n3 6 (by omega), n3 8 (by omega), n3 10 (by omega), n3 12 (by omega), n3 2 (by omega), n20, n30, if_false]
  obtain ⟨ν, h1, h2⟩ := key
  refine ⟨ν, h1, ?_, fun q hq => ?_⟩
  · subst h2
    have o : ∀ q, q ≠ c + 2 → q ≠ c + 3 → ∀ ν : Mm, ∀ f g, mm_I (ms_A (ms_A ν (c + 2) f) (c + 3) g) q = mm_I ν q := fun q h1 h2 ν f g => by rw [iA, if_neg h2, iA, if_neg h1]
    refine ⟨⟨?_, ?_, ?_, ?_, ?_, ?_, ?_, ?_⟩, ⟨?_, ?_, ?_, ?_, ?_⟩, fun i hi => absurd hi (Nat.not_lt_zero _), fun i hi => absurd hi (Nat.not_lt_zero _), fun i hi => absurd hi (Nat.not_lt_zero _), fun i hi => absurd hi (Nat.not_lt_zero _), fun i hi => absurd hi (Nat.not_lt_zero _), fun p hp => ?_, fun p hp => ?_⟩
    all_goals first
      | (rw [o _ (by omega) (by omega)]
         repeat (first | (rw [rI, if_pos ⟨rfl, rfl⟩]; rfl) | rw [rI, if_neg (by omega)]))
      | (rw [iA, if_neg (by omega), iA, if_pos rfl, if_pos hp]; rfl)
      | (rw [iA, if_pos rfl, if_pos hp]; rfl)
  · subst h2
    rw [iA, if_neg (by omega), iA, if_neg (by omega), iI, if_neg (by omega), iI, if_neg (by omega), iI, if_neg (by omega), iI, if_neg (by omega), iI, if_neg (by omega), iI, if_neg (by omega), iI, if_neg (by omega), iI, if_neg (by omega), iI, if_neg (by omega), iI, if_neg (by omega), iI, if_neg (by omega), iI, if_neg (by omega), iI, if_neg (by omega)]
/-- how the reading of all clauses ends -/
def LOut (X n : Nat) (B : Nat → Nat) (c : Nat) (μ : Mm) (r : Option (Mm ⊕ Mm)) (e : Er (Drf × Nat)) : Prop := match e with
  | .inl f => ∃ ν, r = some (.inl ν) ∧ FrC X c μ ν ∧ Flt X f ν
  | .inr z => ∃ ν, r = some (.inr ν) ∧ FrC X c μ ν ∧ CS X n B c z.1 (tN n B z.2) ν ∧ TkC X n B z.2 ν ∧ z.2 ≤ n
theorem LOut_t {r : Option (Mm ⊕ Mm)} {e : Er (Drf × Nat)} (h : FrC X c μ ν) (ho : LOut X n B c ν r e) : LOut X n B c μ r e := by
  unfold LOut at ho ⊢
  cases e with
  | inl f => obtain ⟨ρ, a1, a2, a3⟩ := ho; exact ⟨ρ, a1, FrC_t h a2, a3⟩
  | inr z => obtain ⟨ρ, a1, a2, a3⟩ := ho; exact ⟨ρ, a1, FrC_t h a2, a3⟩
theorem c_rdl : ∀ (k i : Nat) (s : Drf) (x : Nat) (ν : Mm), CS X n B c s (tN n B x) ν → TkC X n B x ν → x ≤ n → n < x + k → i ≤ x → s.1 0 12 = i → LOut X n B c ν (whl (f_X8_read_L43 (X + 57)) (nI i, ν)) (rdl n B k s x) := by
  intro k
  induction k with
  | zero => intro i s x ν _ _ h1 h2; omega
  | succ k ih =>
    intro i s x ν h hk hx hn hi h12
    have h1 := h.1.1
    have n9 := h.1.2.2.1.1
    have hc := h.1.2.2.2
    unfold rdl
    obtain ⟨z, hz⟩ : ∃ z, z = f_X8_read_L43 (X + 57) (nI i, ν) := ⟨_, rfl⟩
    have body := hz
    unfold f_X8_read_L43 at body
    by_cases e0 : tk n B x = 0
    · rw [if_pos e0]
      have : z = some (.inr (.inr ν)) := by
        rw [body]
        by_cases e9 : (900 : Int32) ≤ nI i
        · rw [if_pos e9]
        · rw [if_neg e9, rp_57_0 h1, ob, rf_3 h1, ob, hk.1, e0, if_pos (show nI 0 = 0 from rfl)]
      rw [whl_r (hz.symm.trans this)]
      exact ⟨ν, rfl, FrC_r, h, hk, hx⟩
    · have hgt := tN_gt hx e0
      have hle := tN_le (B := B) hx
      rw [if_neg e0]
      rw [if_neg (by rw [show (900 : Int32) = nI 900 from rfl, nI_le_i (by omega) (by omega)]; omega), rp_57_0 h1, ob, rf_3 h1, ob, hk.1, if_neg (by rw [nI_z tk_31]; exact e0)] at body
      have co := c_cls h hk hx
      cases em : mkr n B (cls n B s x) with
      | inl f =>
        rw [em] at co
        obtain ⟨ν1, a1, a2, a3⟩ := co
        rw [a1, ob, if_pos rfl] at body
        rw [whl_r (hz.symm.trans body)]
        exact ⟨ν1, rfl, a2, a3⟩
      | inr q =>
        obtain ⟨s', y⟩ := q
        rw [em] at co
        obtain ⟨ν1, a1, a2, a3⟩ := co
        obtain ⟨m1, m2, m3, m4⟩ := mkr_ok h.2.1 hx em
        have g1 := a3.1.1
        have hT := tws_c g1 hc
        have k1 : gf_P 9 1 (X + 57) ν1 = some c := e_gfP (by rw [mk_57 g1]) a3.2.2.1.1
        rw [a1, ob, if_neg one_ne, k1, ob, ct_cl hT a3.2.2.1.2.1, ob, nI_1, tc_w hT, ob] at body
        have fr : FrC X c ν1 (ms_I ν1 c 16 (nI (s'.1 0 12 + 1))) := FrC_I (by omega)
        have hcs : CS X n B c (cl1 s') y (ms_I ν1 c 16 (nI (s'.1 0 12 + 1))) := CS_up a3 fr (ok_cl1 m1 (by omega)) (ctn_i (by omega) a3.2.2.1.2.1) (by rw [iI, if_neg (by omega)]) rfl rfl (by rw [rI, if_neg (by omega)])
        replace body : z = _ := body
        dsimp only at body
        generalize ms_I ν1 c 16 (nI (s'.1 0 12 + 1)) = ν2 at fr hcs body
        obtain ⟨ν3, b1, b2, b3, b4⟩ := c_stp hcs
        rw [rp_57_0 hcs.1.1, ob, b1, ob, ob, nI_1] at body
        rw [whl_l (hz.symm.trans body)]
        show LOut X n B c ν _ (rdl n B k (cl1 s') y)
        refine LOut_t (FrC_t a2 (FrC_t fr b2)) (ih (i + 1) (cl1 s') y ν3 b3 b4 m3 (by omega) (by omega) ?_)
        show s'.1 0 12 + 1 = i + 1
        omega
/-- how the class's reading of a town ends -/
def TOut (X n : Nat) (B : Nat → Nat) (c : Nat) (μ : Mm) (r : Option (Int32 × Mm)) (e : Er Tn) : Prop := match e with
  | .inl f => ∃ ν, r = some ((0 : Int32), ν) ∧ FrC X c μ ν ∧ Flt X f ν
  | .inr D => ∃ ν, r = some ((1 : Int32), ν) ∧ FrC X c μ ν ∧ CTn c D ν ∧ TuP c D ν ∧ OkT D ∧ 0 < (EN D).length ∧ mm_I ν (X + 57) 3 = 0 ∧ mm_I ν (X + 57) 4 = -1
/-- all of a town's text: a fault, or the town -/
def rdT (n : Nat) (B : Nat → Nat) : Er Tn := eb (rdl n B (n + 1) S0 0) fun z => if 0 < (EN z.1.1).length then .inr z.1.1 else .inl (4, tP n B z.2)
theorem sh_P57 {v : Option Nat} (h : Sh X μ) : Sh X (ms_P μ (X + 57) 1 v) := by
  refine ⟨h.1, fun q hq => ?_⟩
  have key : ∀ q ∈ p_tab, ¬ (q.1 = 57 ∧ q.2.1 = 1) := by decide +kernel
  rw [rP, if_neg (fun z => key q hq ⟨by omega, z.2⟩)]
  exact h.2 q hq
theorem TOl {r : Option (Int32 × Mm)} {f : Nat × Nat} (h1 : r = some ((0 : Int32), ν)) (h2 : FrC X c μ ν) (h3 : Flt X f ν) : TOut X n B c μ r (.inl f) := by
  unfold TOut
  exact ⟨ν, h1, h2, h3⟩
theorem c_read (h1 : Sh X μ) (hS : HS μ) (hp : Cp X n B μ) (hc : c = X + 21 ∨ c = X + 39) : TOut X n B c (ms_P μ (X + 57) 1 (some c)) (f_X8_read (X + 57) c μ) (rdT n B) := by
  have h2 : Sh X (ms_P μ (X + 57) 1 (some c)) := sh_P57 h1
  have hS2 : HS (ms_P μ (X + 57) 1 (some c)) := hS
  have hp2 : Cp X n B (ms_P μ (X + 57) 1 (some c)) := hp
  have hP : mm_P (ms_P μ (X + 57) 1 (some c)) (X + 57) 1 = some c := by rw [rP, if_pos ⟨rfl, rfl⟩]
  unfold f_X8_read
  rw [if_pos (by rw [mk_57 h1]), e_pfP (by rw [mk_57 h1]), ob]
  generalize ms_P μ (X + 57) 1 (some c) = μ1 at h2 hS2 hp2 hP ⊢
  have hT := tws_c h2 hc
  obtain ⟨ν, a1, a2, a3⟩ := e_clear hT
  have aP : mm_P ν = mm_P μ1 := p_X7_clear a1
  have aL : mm_L ν = mm_L μ1 := l_X7_clear a1
  have aT : tl ν = tl μ1 := t_X7_clear a1
  have fr0 : FrC X c μ1 ν := ⟨aP, aT, fun q _ _ g => a3 q (by omega), fun q _ _ => by rw [aL]⟩
  have g1 := FrC_sh fr0 h2
  rw [e_gfP (by rw [mk_57 h2]) hP, ob, a1, ob, wf_57 g1, ob, wf_57 (shI' g1 _ _ _), ob, wf_57 (shI' (shI' g1 _ _ _) _ _ _), ob, rp_57_0 (shI' (shI' (shI' g1 _ _ _) _ _ _) _ _ _), ob]
  have fr1 : FrC X c ν (ms_I (ms_I (ms_I ν (X + 57) 2 0) (X + 57) 3 0) (X + 57) 4 (-1)) := FrC_t FrC_57 (FrC_t FrC_57 FrC_57)
  have q2 : mm_I (ms_I (ms_I (ms_I ν (X + 57) 2 0) (X + 57) 3 0) (X + 57) 4 (-1)) (X + 57) 2 = nI 0 := by rw [rI, if_neg (by omega), rI, if_neg (by omega), rI, if_pos ⟨rfl, rfl⟩]; rfl
  have q3 : mm_I (ms_I (ms_I (ms_I ν (X + 57) 2 0) (X + 57) 3 0) (X + 57) 4 (-1)) (X + 57) 3 = 0 := by rw [rI, if_neg (by omega), rI, if_pos ⟨rfl, rfl⟩]
  have q4 : mm_I (ms_I (ms_I (ms_I ν (X + 57) 2 0) (X + 57) 3 0) (X + 57) 4 (-1)) (X + 57) 4 = -1 := by rw [rI, if_pos ⟨rfl, rfl⟩]
  have q5 : CTn c D0 (ms_I (ms_I (ms_I ν (X + 57) 2 0) (X + 57) 3 0) (X + 57) 4 (-1)) := ctn_x (fun q _ _ => by rw [iI, if_neg (by omega), iI, if_neg (by omega), iI, if_neg (by omega)]) a2
  generalize ms_I (ms_I (ms_I ν (X + 57) 2 0) (X + 57) 3 0) (X + 57) 4 (-1) = ν1 at fr1 q2 q3 q4 q5 ⊢
  have fr2 := FrC_t fr0 fr1
  have g2 := FrC_sh fr2 h2
  have fr3 : FrC X c μ1 (ms_I ν1 (X + 3) 1 0) := FrC_t fr2 (FrC_3 Fr3_I)
  have g3 := FrC_sh fr3 h2
  have hcs : CS X n B c S0 0 (ms_I ν1 (X + 3) 1 0) := by
    refine ⟨FrC_h fr3 ⟨h2, hS2, hp2, hc⟩, ok_D0, ⟨by rw [fr3.1]; exact hP, ctn_x (fun q _ _ => by rw [iI, if_neg (by omega)]) q5, fun k hk => absurd hk (Nat.not_lt_zero _), 0, by rw [rI, if_neg (by omega)]; exact q2, by decide, rfl, rfl, rfl, by rw [rI, if_neg (by omega)]; exact q3, by rw [rI, if_neg (by omega)]; exact q4⟩, by rw [rI, if_pos ⟨rfl, rfl⟩]; rfl, Nat.zero_le _⟩
  unfold f_X6_rewind
  rw [if_pos (by rw [mk_3 g2]), wf_3 g2, ob, ob, rp_57_0 g3, ob]
  obtain ⟨ν2, b1, b2, b3, b4⟩ := c_stp hcs
  rw [b1, ob]
  have lo := LOut_t (FrC_t fr3 b2) (c_rdl (n + 1) 0 S0 0 ν2 b3 b4 (Nat.zero_le _) (by omega) (Nat.le_refl _) rfl)
  replace lo : LOut X n B c μ1 (whl (f_X8_read_L43 (X + 57)) ((0 : Int32), ν2)) (rdl n B (n + 1) S0 0) := lo
  unfold rdT
  cases e : rdl n B (n + 1) S0 0 with
  | inl f =>
    rw [e] at lo
    obtain ⟨ρ, c1, c2, c3⟩ := lo
    rw [c1, ob]
    exact TOl rfl c2 c3
  | inr z =>
    rw [e] at lo
    obtain ⟨ρ, c1, c2, c3, c4, c5⟩ := lo
    rw [c1, ob]
    have g4 := c3.1.1
    have hT4 := tws_c g4 hc
    have ok := c3.2.1
    show TOut X n B c μ1 (f_X8_read_J95 (X + 57) ρ) (if 0 < (EN z.1.1).length then .inr z.1.1 else .inl (4, tP n B z.2))
    unfold f_X8_read_J95 f_X8_read_J130
    have k1 : gf_P 9 1 (X + 57) ρ = some c := e_gfP (by rw [mk_57 g4]) c3.2.2.1.1
    obtain ⟨π, d1, d2, d3⟩ := e_prepare hT4 c3.2.2.1.2.1 ok
    have dP : mm_P π = mm_P ρ := p_X9_prepare d1
    have dL : mm_L π = mm_L ρ := l_X9_prepare d1
    have dT : tl π = tl ρ := t_X9_prepare d1
    have fr5 : FrC X c ρ π := ⟨dP, dT, fun q _ _ g => d3 q (by omega), fun q _ _ => by rw [dL]⟩
    have g5 := FrC_sh fr5 g4
    have hT5 := tws_c g5 hc
    have k2 : gf_P 9 1 (X + 57) π = some c := e_gfP (by rw [mk_57 g5]) (by rw [dP]; exact c3.2.2.1.1)
    have hEN : (EN z.1.1).length < 2 ^ 31 := by rw [EN_n]; exact wy_b ok 0
    rw [k1, ob, tc_p8 hT4, ob, ob, d1, ob, k2, ob, tc_p8 hT5, ob, e_howMany hT5 d2, ob]
    by_cases e5 : 0 < (EN z.1.1).length
    · rw [if_pos e5, if_pos (by rw [show (0 : Int32) = nI 0 from rfl, nI_lt_i (by decide) hEN]; exact e5)]
      obtain ⟨-, -, -, o, -, -, -, -, -, o3, o4⟩ := c3.2.2.1
      exact ⟨π, rfl, FrC_t c2 fr5, ctn_x (fun q _ _ => d3 q (by omega)) c3.2.2.1.2.1, d2, ok, e5, by rw [d3 _ (by omega)]; exact o3, by rw [d3 _ (by omega)]; exact o4⟩
    · obtain ⟨τ, t1, t2, t3⟩ := c_fl (c := c) (v := 4) (p := tP n B z.2) g5 (by rw [d3 _ (by omega)]; exact c4.2.1)
      replace t1 : f_X8_fail (X + 57) 4 π = some (0, τ) := t1
      rw [if_neg e5, if_neg (by rw [show (0 : Int32) = nI 0 from rfl, nI_lt_i (by decide) hEN]; exact e5), t1, ob, if_pos rfl]
      exact TOl rfl (FrC_t c2 (FrC_t fr5 t2)) t3
end CRD
