/-! ===== a town's text: the class reads ===== -/
def HS (μ : Mm) : Prop := ∀ i j, i < 14 → j < 14 → mm_S μ i = mm_S μ j → i = j
def TkC (X n : Nat) (B : Nat → Nat) (x : Nat) (μ : Mm) : Prop := mm_I μ (X + 3) 2 = nI (tk n B x) ∧ mm_I μ (X + 3) 3 = nI (tP n B x) ∧ (tk n B x = 1 → mm_I μ (X + 3) 4 = nI (tN n B x - tP n B x) ∧ mm_L μ (X + 3) 6 = tW n B x) ∧ (tk n B x = 2 → mm_I μ (X + 3) 5 = nI (tv n B x))
def FrC (X c : Nat) (μ ν : Mm) : Prop := mm_P ν = mm_P μ ∧ tl ν = tl μ ∧ (∀ q, q ≠ X + 3 → q ≠ X + 57 → q < c ∨ c + 18 ≤ q → mm_I ν q = mm_I μ q) ∧ ∀ q, q ≠ X + 3 → q ≠ c + 1 → mm_L ν q = mm_L μ q
def CDr (X c : Nat) (s : Drf) (μ : Mm) : Prop := mm_P μ (X + 57) 1 = some c ∧ CTn c s.1 μ ∧ (∀ k, k < s.1 0 0 → mm_L μ (c + 1) k = s.2.1 k) ∧ ∃ o, mm_I μ (X + 57) 2 = nI o ∧ o < 4096 ∧ o.testBit 9 = s.2.2 6 ∧ o.testBit 11 = s.2.2 7 ∧ o.testBit 10 = s.2.2 8 ∧ mm_I μ (X + 57) 3 = 0 ∧ mm_I μ (X + 57) 4 = -1
def CS (X n : Nat) (B : Nat → Nat) (c : Nat) (s : Drf) (x : Nat) (μ : Mm) : Prop := (Sh X μ ∧ HS μ ∧ Cp X n B μ ∧ (c = X + 21 ∨ c = X + 39)) ∧ OkT s.1 ∧ CDr X c s μ ∧ mm_I μ (X + 3) 1 = nI x ∧ x ≤ n
def Flt (X : Nat) (e : Nat × Nat) (μ : Mm) : Prop := mm_I μ (X + 57) 3 = nI e.1 ∧ mm_I μ (X + 57) 4 = nI e.2
def COut (X n : Nat) (B : Nat → Nat) (c : Nat) (μ : Mm) (r : Option (Int32 × Mm)) (e : Er (Drf × Nat)) : Prop := match e with
  | .inl f => ∃ ν, r = some ((0 : Int32), ν) ∧ FrC X c μ ν ∧ Flt X f ν
  | .inr z => ∃ ν, r = some ((1 : Int32), ν) ∧ FrC X c μ ν ∧ CS X n B c z.1 z.2 ν
section CRD
variable {X n x c : Nat} {B : Nat → Nat} {s : Drf} {μ ν ρ : Mm}
theorem FrC_r : FrC X c μ μ := ⟨rfl, rfl, fun _ _ _ _ => rfl, fun _ _ _ => rfl⟩
theorem FrC_t (h : FrC X c μ ν) (h' : FrC X c ν ρ) : FrC X c μ ρ := ⟨h'.1.trans h.1, h'.2.1.trans h.2.1, fun q a b d => (h'.2.2.1 q a b d).trans (h.2.2.1 q a b d), fun q a b => (h'.2.2.2 q a b).trans (h.2.2.2 q a b)⟩
theorem FrC_3 (h : Fr3 X μ ν) : FrC X c μ ν := ⟨h.1, h.2.1, fun q a _ _ => h.2.2.1 q a, fun q a _ => h.2.2.2 q a⟩
theorem FrC_57 {k : Nat} {v : Int32} : FrC X c μ (ms_I μ (X + 57) k v) := ⟨rfl, rfl, fun q _ b _ => by rw [iI, if_neg b], fun _ _ _ => rfl⟩
theorem FrC_I {a k : Nat} {v : Int32} (h : c ≤ a ∧ a < c + 18) : FrC X c μ (ms_I μ a k v) := ⟨rfl, rfl, fun q _ _ d => by rw [iI, if_neg (by omega)], fun _ _ _ => rfl⟩
theorem FrC_A {a : Nat} {f : Nat → Int32} (h : c ≤ a ∧ a < c + 18) : FrC X c μ (ms_A μ a f) := ⟨rfl, rfl, fun q _ _ d => by rw [iA, if_neg (by omega)], fun _ _ _ => rfl⟩
theorem FrC_L {k : Nat} {v : Int64} : FrC X c μ (ms_L μ (c + 1) k v) := ⟨rfl, rfl, fun _ _ _ _ => rfl, fun q _ b => by rw [lL, if_neg b]⟩
theorem FrC_S (h : FrC X c μ ν) (hs : HS μ) : HS ν := by
  have e : mm_S ν = mm_S μ := congrArg (fun t => t.2.1) h.2.1
  unfold HS
  rw [e]
  exact hs
theorem FrC_sh (h : FrC X c μ ν) (hs : Sh X μ) : Sh X ν := sh_x h.1 h.2.1 hs
theorem FrC_cp (hc : c = X + 21 ∨ c = X + 39) (h : FrC X c μ ν) (hp : Cp X n B μ) : Cp X n B ν := cp_x (h.2.2.1 _ (by omega) (by omega) (by omega)) (h.2.2.1 _ (by omega) (by omega) (by omega)) hp
theorem FrC_h (h : FrC X c μ ν) (hh : Sh X μ ∧ HS μ ∧ Cp X n B μ ∧ (c = X + 21 ∨ c = X + 39)) : Sh X ν ∧ HS ν ∧ Cp X n B ν ∧ (c = X + 21 ∨ c = X + 39) := ⟨FrC_sh h hh.1, FrC_S h hh.2.1, FrC_cp hh.2.2.2 h hh.2.2.1, hh.2.2.2⟩
theorem tws_c (h : Sh X μ) (hc : c = X + 21 ∨ c = X + 39) : TwS c (mm_K μ) (mm_P μ) := by
  rcases hc with e | e
  · rw [e]; exact tws_21 h
  · rw [e]; exact tws_39 h
theorem COl {r : Option (Int32 × Mm)} {f : Nat × Nat} (h1 : r = some ((0 : Int32), ν)) (h2 : FrC X c μ ν) (h3 : Flt X f ν) : COut X n B c μ r (.inl f) := by
  unfold COut
  exact ⟨ν, h1, h2, h3⟩
theorem COr {r : Option (Int32 × Mm)} {y : Nat} (h1 : r = some ((1 : Int32), ν)) (h2 : FrC X c μ ν) (h3 : CS X n B c s y ν) : COut X n B c μ r (.inr (s, y)) := by
  unfold COut
  exact ⟨ν, h1, h2, h3⟩
theorem COut_t {r : Option (Int32 × Mm)} {e : Er (Drf × Nat)} (h : FrC X c μ ν) (ho : COut X n B c ν r e) : COut X n B c μ r e := by
  cases e with
  | inl f => obtain ⟨ρ, a1, a2, a3⟩ := ho; exact COl a1 (FrC_t h a2) a3
  | inr z => obtain ⟨ρ, a1, a2, a3⟩ := ho; exact COr a1 (FrC_t h a2) a3
/-- a boolean handed on -/
theorem COut_b {r : Option (Int32 × Mm)} {e : Er (Drf × Nat)} (h : COut X n B c μ r e) : COut X n B c μ (r.bind fun q => if q.1 = 0 ∨ q.1 = 1 then some (q.1, q.2) else none) e := by
  cases e with
  | inl f => obtain ⟨ρ, a1, a2, a3⟩ := h; exact COl (by rw [a1, ob, if_pos (Or.inl rfl)]) a2 a3
  | inr z => obtain ⟨ρ, a1, a2, a3⟩ := h; exact COr (by rw [a1, ob, if_pos (Or.inr rfl)]) a2 a3
theorem tv_lt (h : x ≤ n) (hk : tk n B x = 2) : tv n B x < 10000 := dv_4 hk
theorem CDr_f (f : FrC X c μ ν) (hI : ∀ q, c ≤ q → q < c + 14 → mm_I ν q = mm_I μ q) (h2 : mm_I ν (X + 57) = mm_I μ (X + 57)) (hL : mm_L ν (c + 1) = mm_L μ (c + 1)) (h : CDr X c s μ) : CDr X c s ν := by
  obtain ⟨h0, h1, h3, o, h4⟩ := h
  exact ⟨by rw [f.1]; exact h0, ctn_x hI h1, fun k hk => by rw [hL]; exact h3 k hk, o, by rw [h2]; exact h4⟩
/-- a step -/
theorem c_stp (h : CS X n B c s x μ) : ∃ ν, f_X6_advance (X + 3) μ = some ν ∧ FrC X c μ ν ∧ CS X n B c s (tN n B x) ν ∧ TkC X n B x ν := by
  obtain ⟨⟨h1, h2, h3, h4⟩, h5, h6, h7, h8⟩ := h
  obtain ⟨ν, a1, a2, a3, a4, a5, a6, a7⟩ := c_adv h1 h3 h7 h8
  have hF : FrC X c μ ν := FrC_3 a2
  refine ⟨ν, a1, hF, ⟨FrC_h hF ⟨h1, h2, h3, h4⟩, h5, CDr_f hF (fun q g1 g2 => a2.2.2.1 q (by omega)) (a2.2.2.1 (X + 57) (by omega)) (a2.2.2.2 _ (by omega)) h6, a3, tN_le h8⟩, a4, a5, a6, a7⟩
theorem c_fl {v p : Nat} (h : Sh X μ) (h3 : mm_I μ (X + 3) 3 = nI p) : ∃ ν, f_X8_fail (X + 57) (nI v) μ = some (0, ν) ∧ FrC X c μ ν ∧ Flt X (v, p) ν := by
  refine ⟨_, c_fail h, FrC_t FrC_57 FrC_57, ?_, ?_⟩
  · rw [rI, if_neg (by omega), rI, if_pos ⟨rfl, rfl⟩]
  · rw [rI, if_pos ⟨rfl, rfl⟩]; exact h3
theorem c_flo {v p : Nat} (h : Sh X μ) (h3 : mm_I μ (X + 3) 3 = nI p) : COut X n B c μ (f_X8_fail (X + 57) (nI v) μ) (.inl (v, p)) := by
  obtain ⟨ν, a1, a2, a3⟩ := c_fl (v := v) h h3
  exact COl a1 a2 a3
theorem c_po {w : Int64} (hc : TwS c (mm_K μ) (mm_P μ)) (ok : OkT s.1) (h : CDr X c s μ) : f_X7_personOf c w μ = some (oI (nmd s w)) := by
  have n8 := ok.1.1
  unfold f_X7_personOf
  rw [if_pos (by rw [hc.1])]
  have hst : ∀ k, k < s.1 0 0 → f_X7_personOf_L2 c w μ (nI k) = if s.2.1 k = w then some (.inr (.inl (nI k))) else some (.inl (nI (k + 1))) := by
    intro k hk
    simp only [f_X7_personOf_L2]
    rw [ct_n hc h.2.1, ob, if_neg (by rw [nI_le_i (by omega) (by omega)]; omega), tc_p0 hc, ob, tc_n hc (by omega), ob, h.2.2.1 k hk, ob, nI_1]
    by_cases e : s.2.1 k = w
    · rw [if_pos ((lg_cmp_eq _ _).mpr e), if_pos e]
    · rw [if_neg (fun z => e ((lg_cmp_eq _ _).mp z)), if_neg e]
  refine (whl_fb (s.1 0 0) (fun k => nI k) (fun k => s.2.1 k == w) (fun k => .inl (nI k)) (b := .inr ()) rfl (fun k hk hq => ?_) (fun k hk hq => ?_) ?_).trans ?_
  · rw [hst k hk, if_neg (by simpa using hq)]
  · rw [hst k hk, if_pos (by simpa using hq)]
  · simp only [f_X7_personOf_L2]
    rw [ct_n hc h.2.1, ob, if_pos (nI_le (Nat.le_refl _) (by omega))]
  · unfold nmd
    cases ff (fun k => s.2.1 k == w) (s.1 0 0) <;> rfl
theorem tk_31 : tk n B x < 2 ^ 31 := by have := tk_le (n := n) (B := B) (x := x); omega
theorem c_nmd (h : CS X n B c s x μ) : (∀ e, rdN n B s x = .inl e → ∃ ν, f_X8_readNamed (X + 57) μ = some (-1, ν) ∧ FrC X c μ ν ∧ Flt X e ν) ∧ (∀ p, rdN n B s x = .inr p → ∃ ν, f_X8_readNamed (X + 57) μ = some (nI p, ν) ∧ FrC X c μ ν ∧ CS X n B c s (tN n B x) ν ∧ mm_I ν (X + 3) 3 = nI (tP n B x)) := by
  obtain ⟨ν, a1, a2, a3, a4, a5, a6, a7⟩ := c_stp h
  have h1 := h.1.1
  have g1 := a3.1.1
  have n8 := h.2.1.1.1
  obtain ⟨z, hz⟩ : ∃ z, z = f_X8_readNamed (X + 57) μ := ⟨_, rfl⟩
  have body := hz
  unfold f_X8_readNamed at body
  rw [if_pos (by rw [mk_57 h1]), rp_57_0 h1, ob, a1, ob, rp_57_0 g1, ob, rf_3 g1, ob, a4] at body
  unfold rdN
  by_cases e1 : tk n B x = 1
  · rw [if_pos e1]
    rw [e1, if_pos (show nI 1 = 1 from rfl), e_gfP (by rw [mk_57 g1]) a3.2.2.1.1, ob, ob, rl_3 g1, ob, (a6 e1).2, c_po (tws_c g1 h.1.2.2.2) h.2.1 a3.2.2.1, ob] at body
    cases e2 : nmd s (tW n B x) with
    | none =>
      rw [e2] at body
      obtain ⟨π, b1, b2, b3⟩ := c_fl (c := c) (v := 5) g1 a5
      replace b1 : f_X8_fail (X + 57) 5 ν = some (0, π) := b1
      rw [show oI none = (-1 : Int32) from rfl, if_pos rfl, b1, ob] at body
      exact ⟨fun e he => by cases he; exact ⟨π, hz.symm.trans body, FrC_t a2 b2, b3⟩, fun p hp => by cases hp⟩
    | some p =>
      rw [e2] at body
      have hp := (ff_some.mp e2).1
      rw [show oI (some p) = nI p from rfl, if_neg (neg1_ne (by omega))] at body
      exact ⟨fun e he => by (cases he), fun q hq => by cases hq; exact ⟨ν, hz.symm.trans body, a2, a3, a5⟩⟩
  · rw [if_neg e1]
    obtain ⟨π, b1, b2, b3⟩ := c_fl (c := c) (v := 1) g1 a5
    replace b1 : f_X8_fail (X + 57) 1 ν = some (0, π) := b1
    rw [if_neg (by rw [show (1 : Int32) = nI 1 from rfl, nI_eq_i tk_31 (by decide)]; exact e1), b1, ob] at body
    exact ⟨fun e he => by cases he; exact ⟨π, hz.symm.trans body, FrC_t a2 b2, b3⟩, fun p hp => by cases hp⟩
theorem c_bt {lo hi : Nat} (h : CS X n B c s x μ) (hl : lo < 10000) (hh : hi < 10000) : (∀ e, rdB n B lo hi x = .inl e → ∃ ν, f_X8_readBetween (X + 57) (nI lo) (nI hi) μ = some (-1, ν) ∧ FrC X c μ ν ∧ Flt X e ν) ∧ (∀ v, rdB n B lo hi x = .inr v → ∃ ν, f_X8_readBetween (X + 57) (nI lo) (nI hi) μ = some (nI v, ν) ∧ FrC X c μ ν ∧ CS X n B c s (tN n B x) ν ∧ mm_I ν (X + 3) 3 = nI (tP n B x)) := by
  obtain ⟨ν, a1, a2, a3, a4, a5, a6, a7⟩ := c_stp h
  have h1 := h.1.1
  have g1 := a3.1.1
  obtain ⟨z, hz⟩ : ∃ z, z = f_X8_readBetween (X + 57) (nI lo) (nI hi) μ := ⟨_, rfl⟩
  have body := hz
  unfold f_X8_readBetween f_X8_readBetween_J48 at body
  rw [if_pos (by rw [mk_57 h1]), rp_57_0 h1, ob, a1, ob, rp_57_0 g1, ob, rf_3 g1, ob, a4] at body
  unfold rdB
  by_cases e1 : tk n B x = 2
  · have hv := tv_lt h.2.2.2.2 e1
    rw [if_pos e1]
    rw [e1, if_pos (show nI 2 = 2 from rfl), ob, rf_3 g1, ob, ob, rf_3 g1, ob, ob, rf_3 g1, ob, a7 e1] at body
    obtain ⟨π, b1, b2, b3⟩ := c_fl (c := c) (v := 2) g1 a5
    replace b1 : f_X8_fail (X + 57) 2 ν = some (0, π) := b1
    rw [b1, ob] at body
    by_cases e2 : lo ≤ tv n B x ∧ tv n B x ≤ hi
    · rw [if_pos e2]
      rw [if_neg (by rw [nI_lt_i (by omega) (by omega)]; omega), if_pos (by rw [nI_le_i (by omega) (by omega)]; exact e2.2)] at body
      exact ⟨fun e he => by (cases he), fun q hq => by cases hq; exact ⟨ν, hz.symm.trans body, a2, a3, a5⟩⟩
    · rw [if_neg e2]
      refine ⟨fun e he => ?_, fun p hp => by (cases hp)⟩
      cases he
      refine ⟨π, hz.symm.trans (body.trans ?_), FrC_t a2 b2, b3⟩
      by_cases e3 : tv n B x < lo
      · rw [if_pos (by rw [nI_lt_i (by omega) (by omega)]; exact e3)]
      · rw [if_neg (by rw [nI_lt_i (by omega) (by omega)]; exact e3), if_neg (by rw [nI_le_i (by omega) (by omega)]; omega)]
  · rw [if_neg e1]
    obtain ⟨π, b1, b2, b3⟩ := c_fl (c := c) (v := 1) g1 a5
    replace b1 : f_X8_fail (X + 57) 1 ν = some (0, π) := b1
    rw [if_neg (by rw [show (2 : Int32) = nI 2 from rfl, nI_eq_i tk_31 (by decide)]; exact e1), b1, ob] at body
    exact ⟨fun e he => by cases he; exact ⟨π, hz.symm.trans body, FrC_t a2 b2, b3⟩, fun p hp => by cases hp⟩
theorem c_mk (h : CS X n B c s x μ) : COut X n B c μ (f_X8_readMark (X + 57) μ) (mkr n B (.inr (s, x))) := by
  obtain ⟨ν, a1, a2, a3, a4, a5, a6, a7⟩ := c_stp h
  have h1 := h.1.1
  have g1 := a3.1.1
  unfold f_X8_readMark f_X8_readMark_J26
  rw [if_pos (by rw [mk_57 h1]), rp_57_0 h1, ob, a1, ob, rp_57_0 g1, ob, rf_3 g1, ob, a4]
  show COut X n B c μ _ (if tk n B x = 3 then .inr (s, tN n B x) else .inl (1, tP n B x))
  by_cases e1 : tk n B x = 3
  · rw [if_pos e1, e1, if_pos (show nI 3 = 3 from rfl)]
    exact COr rfl a2 a3
  · obtain ⟨π, b1, b2, b3⟩ := c_fl (c := c) (v := 1) g1 a5
    replace b1 : f_X8_fail (X + 57) 1 ν = some (0, π) := b1
    rw [if_neg e1, if_neg (by rw [show (3 : Int32) = nI 3 from rfl, nI_eq_i tk_31 (by decide)]; exact e1), b1, ob, if_pos rfl]
    exact COl rfl (FrC_t a2 b2) b3
end CRD
