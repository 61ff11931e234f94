/-! ===== a new town: the class ===== -/
def A0 : Nat → Nat → Nat := fun _ _ => 0
def R0 : Nat → Rs := fun _ => (false, 0, 0, 0, fun _ _ => false)
section SET
variable {X n i c c' : Nat} {B : Nat → Nat} {s : Sv} {μ ν ρ : Mm} {D : Tn}
theorem sh_P58 {v : Option Nat} (h : Sh X μ) : Sh X (ms_P μ (X + 58) 7 v) := by
  refine ⟨h.1, fun q hq => ?_⟩
  have key : ∀ q ∈ p_tab, ¬ (q.1 = 58 ∧ q.2.1 = 7) := by decide +kernel
  rw [rP, if_neg (fun z => key q hq ⟨by omega, z.2⟩)]
  exact h.2 q hq
theorem sh_P66 {v : Option Nat} (h : Sh X μ) : Sh X (ms_P μ (X + 66) 5 v) := by
  refine ⟨h.1, fun q hq => ?_⟩
  have key : ∀ q ∈ p_tab, ¬ (q.1 = 66 ∧ q.2.1 = 5) := by decide +kernel
  rw [rP, if_neg (fun z => key q hq ⟨by omega, z.2⟩)]
  exact h.2 q hq
theorem sh_P0 {v : Option Nat} {k : Nat} (hk : k = 13 ∨ k = 14) (h : Sh X μ) : Sh X (ms_P μ X k v) := by
  refine ⟨h.1, fun q hq => ?_⟩
  have key : ∀ q ∈ p_tab, ¬ (q.1 = 0 ∧ (q.2.1 = 13 ∨ q.2.1 = 14)) := by decide +kernel
  rw [rP, if_neg (fun z => key q hq ⟨by omega, by rw [z.2]; exact hk⟩)]
  exact h.2 q hq
/-- the class settles -/
theorem e_settC (h : Sh X μ) (hc : c = X + 21 ∨ c = X + 39) (h13 : mm_P μ X 13 = some c) (ok : OkT D) (ht : CTn c D μ) (hu : TuP c D μ) (hn : 0 < (EN D).length) : ∃ ν, f_X10_settle X μ = some ν ∧ tl ν = tl μ ∧ (∀ q k, mm_P ν q k = if (q = X + 58 ∧ k = 7) ∨ (q = X + 66 ∧ k = 5) then some c else mm_P μ q k) ∧ mm_L ν = mm_L μ ∧ SpT X c D ν ∧ mm_I ν X 15 = nI (cr D (rwT D 0)) ∧ (mm_I ν (X + 4) 8 = 0 ∧ mm_I ν (X + 4) 9 = 0 ∧ mm_I ν (X + 4) 10 = 0) ∧ (mm_I ν (X + 66) 9 = 0 ∧ mm_I ν (X + 66) 10 = 0 ∧ mm_I ν (X + 66) 11 = 0) ∧ (mm_I ν (X + 13) 1 = 0 ∧ mm_I ν (X + 84) 1 = 0 ∧ mm_I ν (X + 86) 1 = 0 ∧ mm_I ν (X + 88) 1 = 0) ∧ (∀ q, q ≠ X → q ≠ X + 4 → q ≠ X + 13 → q < X + 59 ∨ X + 66 < q → q ≠ X + 84 → q ≠ X + 86 → q ≠ X + 88 → mm_I ν q = mm_I μ q) := by
  have hT := tws_c h hc
  have row0 : f_X9_rowOf (c + 14) 0 μ = some (nI (cr D (rwT D 0))) := by
    rw [rwT_e hn]
    exact e_rowOf (k := 0) hT ok hu hn
  unfold f_X10_settle
  have hS1 : Sh X (ms_I μ X 15 (nI (cr D (rwT D 0)))) := h
  have ht1 : CTn c D (ms_I μ X 15 (nI (cr D (rwT D 0)))) := ctn_x (fun q _ _ => by rw [iI, if_neg (by omega)]) ht
  have hP1 : mm_P (ms_I μ X 15 (nI (cr D (rwT D 0)))) X 13 = some c := h13
  have hst := e_setTown (c := c) (sh_P58 hS1) (tws_c (sh_P58 hS1) hc) (by omega) ht1 ok
  rw [if_pos (by rw [mk_0 h]), e_gfP (by rw [mk_0 h]) h13, ob, tc_p8 hT, ob, row0, ob, wf_0 h, ob, rp_0_3 hS1, ob, e_gfP (by rw [mk_0 hS1]) hP1, ob, hst, ob]
  have sS : Sh X (m_st X c D (ms_I μ X 15 (nI (cr D (rwT D 0))))) := sh_P58 (v := some c) hS1
  have sT : SpT X c D (m_st X c D (ms_I μ X 15 (nI (cr D (rwT D 0))))) := m_st_T
  have sP : ∀ q k, mm_P (m_st X c D (ms_I μ X 15 (nI (cr D (rwT D 0))))) q k = if q = X + 58 ∧ k = 7 then some c else mm_P μ q k := fun q k => rP μ (X + 58) 7 (some c) q k
  have sL : mm_L (m_st X c D (ms_I μ X 15 (nI (cr D (rwT D 0))))) = mm_L μ := rfl
  have sTl : tl (m_st X c D (ms_I μ X 15 (nI (cr D (rwT D 0))))) = tl μ := rfl
  have sI : ∀ q, q < X + 59 ∨ X + 65 < q → mm_I (m_st X c D (ms_I μ X 15 (nI (cr D (rwT D 0))))) q = mm_I (ms_I μ X 15 (nI (cr D (rwT D 0)))) q := fun q hq => by
    unfold m_st m_s1
    rw [iA, if_neg (by omega), iA, if_neg (by omega), iA, if_neg (by omega), iA, if_neg (by omega), iA, if_neg (by omega), iP]
  generalize m_st X c D (ms_I μ X 15 (nI (cr D (rwT D 0)))) = μ1 at sS sT sP sL sTl sI ⊢
  unfold f_X0_clear f_X1_setTown
  rw [rp_0_4 sS, ob, if_pos (by rw [mk_4 sS]), wf_4 sS, ob, wf_4 (shI' sS _ _ _), ob, wf_4 (shI' (shI' sS _ _ _) _ _ _), ob, ob]
  have tS : Sh X (ms_I (ms_I (ms_I μ1 (X + 4) 8 0) (X + 4) 9 0) (X + 4) 10 0) := sS
  have tP' : mm_P (ms_I (ms_I (ms_I μ1 (X + 4) 8 0) (X + 4) 9 0) (X + 4) 10 0) = mm_P μ1 := rfl
  have tL : mm_L (ms_I (ms_I (ms_I μ1 (X + 4) 8 0) (X + 4) 9 0) (X + 4) 10 0) = mm_L μ1 := rfl
  have tT : tl (ms_I (ms_I (ms_I μ1 (X + 4) 8 0) (X + 4) 9 0) (X + 4) 10 0) = tl μ1 := rfl
  have t4 : mm_I (ms_I (ms_I (ms_I μ1 (X + 4) 8 0) (X + 4) 9 0) (X + 4) 10 0) (X + 4) 8 = 0 ∧ mm_I (ms_I (ms_I (ms_I μ1 (X + 4) 8 0) (X + 4) 9 0) (X + 4) 10 0) (X + 4) 9 = 0 ∧ mm_I (ms_I (ms_I (ms_I μ1 (X + 4) 8 0) (X + 4) 9 0) (X + 4) 10 0) (X + 4) 10 = 0 := ⟨by rw [rI, if_neg (by omega), rI, if_neg (by omega), rI, if_pos ⟨rfl, rfl⟩], by rw [rI, if_neg (by omega), rI, if_pos ⟨rfl, rfl⟩], by rw [rI, if_pos ⟨rfl, rfl⟩]⟩
  have tI : ∀ q, q ≠ X + 4 → mm_I (ms_I (ms_I (ms_I μ1 (X + 4) 8 0) (X + 4) 9 0) (X + 4) 10 0) q = mm_I μ1 q := fun q hq => by rw [iI, if_neg hq, iI, if_neg hq, iI, if_neg hq]
  generalize ms_I (ms_I (ms_I μ1 (X + 4) 8 0) (X + 4) 9 0) (X + 4) 10 0 = μ2 at tS tP' tL tT t4 tI ⊢
  have p13 : mm_P μ2 X 13 = some c := by rw [tP', sP, if_neg (by omega)]; exact h13
  rw [rp_0_5 tS, ob, e_gfP (by rw [mk_0 tS]) p13, ob, if_pos (by rw [mk_66 tS]), e_pfP (by rw [mk_66 tS]), ob]
  have uS : Sh X (ms_P μ2 (X + 66) 5 (some c)) := sh_P66 tS
  rw [wf_66 uS, ob, wf_66 (shI' uS _ _ _), ob, e_pfZ (by rw [mk_66 (shI' (shI' uS _ _ _) _ _ _)]) (Or.inl rfl), ob, ob]
  have vS : Sh X (ms_I (ms_I (ms_I (ms_P μ2 (X + 66) 5 (some c)) (X + 66) 9 0) (X + 66) 10 0) (X + 66) 11 0) := uS
  have vP : ∀ q k, mm_P (ms_I (ms_I (ms_I (ms_P μ2 (X + 66) 5 (some c)) (X + 66) 9 0) (X + 66) 10 0) (X + 66) 11 0) q k = if q = X + 66 ∧ k = 5 then some c else mm_P μ2 q k := fun q k => rP μ2 (X + 66) 5 (some c) q k
  have vL : mm_L (ms_I (ms_I (ms_I (ms_P μ2 (X + 66) 5 (some c)) (X + 66) 9 0) (X + 66) 10 0) (X + 66) 11 0) = mm_L μ2 := rfl
  have vT : tl (ms_I (ms_I (ms_I (ms_P μ2 (X + 66) 5 (some c)) (X + 66) 9 0) (X + 66) 10 0) (X + 66) 11 0) = tl μ2 := rfl
  have v66 : mm_I (ms_I (ms_I (ms_I (ms_P μ2 (X + 66) 5 (some c)) (X + 66) 9 0) (X + 66) 10 0) (X + 66) 11 0) (X + 66) 9 = 0 ∧ mm_I (ms_I (ms_I (ms_I (ms_P μ2 (X + 66) 5 (some c)) (X + 66) 9 0) (X + 66) 10 0) (X + 66) 11 0) (X + 66) 10 = 0 ∧ mm_I (ms_I (ms_I (ms_I (ms_P μ2 (X + 66) 5 (some c)) (X + 66) 9 0) (X + 66) 10 0) (X + 66) 11 0) (X + 66) 11 = 0 := ⟨by rw [rI, if_neg (by omega), rI, if_neg (by omega), rI, if_pos ⟨rfl, rfl⟩], by rw [rI, if_neg (by omega), rI, if_pos ⟨rfl, rfl⟩], by rw [rI, if_pos ⟨rfl, rfl⟩]⟩
  have vI : ∀ q, q ≠ X + 66 → mm_I (ms_I (ms_I (ms_I (ms_P μ2 (X + 66) 5 (some c)) (X + 66) 9 0) (X + 66) 10 0) (X + 66) 11 0) q = mm_I μ2 q := fun q hq => by rw [iI, if_neg hq, iI, if_neg hq, iI, if_neg hq, iP]
  generalize ms_I (ms_I (ms_I (ms_P μ2 (X + 66) 5 (some c)) (X + 66) 9 0) (X + 66) 10 0) (X + 66) 11 0 = μ3 at vS vP vL vT v66 vI ⊢
  rw [rp_0_6 vS, ob, wz0_13 vS, ob]
  have wS : Sh X (ms_I μ3 (X + 13) 1 0) := vS
  have l4 : whl (f_X10_settle_L54 X) ((0 : Int32), ms_I μ3 (X + 13) 1 0) = some (ms_I (ms_I (ms_I (ms_I μ3 (X + 13) 1 0) (X + 84) 1 0) (X + 86) 1 0) (X + 88) 1 0) := by
    have st : ∀ (ν : Mm) (j q : Nat), Sh X ν → j < 3 → mm_P ν (X + 15) j = some q → mm_K ν q = (4, 0) → f_X10_settle_L54 X (nI j, ν) = some (.inl (nI (j + 1), ms_I ν q 1 0)) := by
      intro ν j q hS hj hp hK
      simp only [f_X10_settle_L54]
      rw [rp_0_7 hS, ob, ln_15 hS, ob, if_neg (by rw [nI_le_i (by omega) (by omega)]; omega), ob, e_gaP (mk_15 hS) (by omega) (by decide) hp, ob, e_pfZ (by rw [hK]) (Or.inl rfl), ob, ob, nI_1]
    have S0' : Sh X (ms_I μ3 (X + 13) 1 0) := vS
    have S1 : Sh X (ms_I (ms_I μ3 (X + 13) 1 0) (X + 84) 1 0) := vS
    have S2 : Sh X (ms_I (ms_I (ms_I μ3 (X + 13) 1 0) (X + 84) 1 0) (X + 86) 1 0) := vS
    have S3 : Sh X (ms_I (ms_I (ms_I (ms_I μ3 (X + 13) 1 0) (X + 84) 1 0) (X + 86) 1 0) (X + 88) 1 0) := vS
    rw [show ((0 : Int32), ms_I μ3 (X + 13) 1 0) = (nI 0, ms_I μ3 (X + 13) 1 0) from rfl, whl_l (st _ 0 _ S0' (by decide) (mp_15_0 S0') (mk_84 S0')), whl_l (st _ 1 _ S1 (by decide) (mp_15_1 S1) (mk_86 S1)), whl_l (st _ 2 _ S2 (by decide) (mp_15_2 S2) (mk_88 S2))]
    refine whl_r ?_
    simp only [f_X10_settle_L54]
    rw [rp_0_7 S3, ob, ln_15 S3, ob, if_pos (nI_le (Nat.le_refl _) (by decide))]
  rw [l4, ob]
  have fI : ∀ q, q ≠ X + 13 → q ≠ X + 84 → q ≠ X + 86 → q ≠ X + 88 → mm_I (ms_I (ms_I (ms_I (ms_I μ3 (X + 13) 1 0) (X + 84) 1 0) (X + 86) 1 0) (X + 88) 1 0) q = mm_I μ3 q := fun q h1 h2 h3 h4 => by rw [iI, if_neg h4, iI, if_neg h3, iI, if_neg h2, iI, if_neg h1]
  have fP : ∀ q k, mm_P (ms_I (ms_I (ms_I (ms_I μ3 (X + 13) 1 0) (X + 84) 1 0) (X + 86) 1 0) (X + 88) 1 0) q k = if (q = X + 58 ∧ k = 7) ∨ (q = X + 66 ∧ k = 5) then some c else mm_P μ q k := fun q k => by
    show mm_P μ3 q k = _
    rw [vP]
    by_cases z : q = X + 66 ∧ k = 5
    · rw [if_pos z, if_pos (Or.inr z)]
    · rw [if_neg z, tP', sP]
      by_cases w : q = X + 58 ∧ k = 7
      · rw [if_pos w, if_pos (Or.inl w)]
      · rw [if_neg w, if_neg (fun y => y.elim w z)]
  refine ⟨_, rfl, vT.trans (tT.trans sTl), fP, vL.trans (tL.trans sL), ?_, ?_, ?_, ?_, ?_, fun q h1 h2 h3 h4 h5 h6 h7 => ?_⟩
  · obtain ⟨z1, z2⟩ := sT
    unfold SpT
    rw [fI _ (by omega) (by omega) (by omega) (by omega), fI _ (by omega) (by omega) (by omega) (by omega), fI _ (by omega) (by omega) (by omega) (by omega), fI _ (by omega) (by omega) (by omega) (by omega), fI _ (by omega) (by omega) (by omega) (by omega), vI _ (by omega), vI _ (by omega), vI _ (by omega), vI _ (by omega), vI _ (by omega), tI _ (by omega), tI _ (by omega), tI _ (by omega), tI _ (by omega), tI _ (by omega)]
    exact ⟨by rw [fP, if_pos (Or.inl ⟨rfl, rfl⟩)], z2⟩
  · rw [fI _ (by omega) (by omega) (by omega) (by omega), vI _ (by omega), tI _ (by omega), sI _ (by omega), rI, if_pos ⟨rfl, rfl⟩]
  · rw [fI _ (by omega) (by omega) (by omega) (by omega), vI _ (by omega)]
    exact t4
  · rw [fI _ (by omega) (by omega) (by omega) (by omega)]
    exact v66
  · exact ⟨by rw [rI, if_neg (by omega), rI, if_neg (by omega), rI, if_neg (by omega), rI, if_pos ⟨rfl, rfl⟩], by rw [rI, if_neg (by omega), rI, if_neg (by omega), rI, if_pos ⟨rfl, rfl⟩], by rw [rI, if_neg (by omega), rI, if_pos ⟨rfl, rfl⟩], by rw [rI, if_pos ⟨rfl, rfl⟩]⟩
  · rw [fI _ (by omega) (by omega) (by omega) (by omega), vI _ (by omega), tI _ (by omega), sI _ (by omega), iI, if_neg (by omega)]
/-- the reader's town is no part of what holds between calls -/
theorem IC_P57 {v : Option Nat} (h : IC X i c s μ) : IC X i c s (ms_P μ (X + 57) 1 v) := by
  have e : ∀ q k, q ≠ X + 57 → mm_P (ms_P μ (X + 57) 1 v) q k = mm_P μ q k := fun q k hq => by rw [rP, if_neg (fun z => hq z.1)]
  obtain ⟨⟨a1, a2, a3, a4⟩, ⟨b1, b2, b3, b4, b5, b6⟩, h3, h4, h5, h6, Rw, Ft, nr, sz, fo, Ml, Ln, as, k1, k2, k3⟩ := h
  refine ⟨⟨sh_P57 a1, ?_, ?_, ?_⟩, ⟨b1, b2, b3, b4, ⟨by rw [e _ _ (by omega)]; exact b5.1, b5.2⟩, b6⟩, h3, h4, h5, h6, Rw, Ft, nr, sz, fo, Ml, Ln, as, ?_, ?_, k3⟩
  · rw [e _ _ (by omega)]; exact a2
  · rw [e _ _ (by omega)]; exact a3
  · rw [e _ _ (by omega)]; exact a4
  · rw [e _ _ (by omega), e _ _ (by omega)]; exact k1
  · intro f hf
    rw [e _ _ (by omega)]
    exact k2 f hf
/-- behind a fault: the draft is worth nothing, the old town stays -/
theorem IC_flt {F : Int32 × Int32} (h : IC X i c s μ) (hc : c = X + 21 ∧ c' = X + 39 ∨ c = X + 39 ∧ c' = X + 21) (f : FrC X c' μ ν) (hF : mm_I ν (X + 57) 3 = F.1 ∧ mm_I ν (X + 57) 4 = F.2) : IC X i c (s.1, s.2.1, 0, s.2.2.2.1, F, s.2.2.2.2.2) (ms_I ν (X + 1) 1 0) := by
  obtain ⟨a, ⟨b1, b2, b3, b4, b5, b6⟩, ⟨t1, t2, t3, t4⟩, -, ⟨d1, d2⟩, ⟨e1, e2⟩, k⟩ := h
  have o : ∀ q, q ≠ X + 1 → q ≠ X + 3 → q ≠ X + 57 → q < c' ∨ c' + 18 ≤ q → mm_I (ms_I ν (X + 1) 1 0) q = mm_I μ q := fun q h1 h2 h3 h4 => by rw [iI, if_neg h1]; exact f.2.2.1 q h2 h3 h4
  refine ⟨?_, ⟨b1, b2, ctn_x (fun q _ _ => o q (by omega) (by omega) (by omega) (by omega)) b3, tuP_x (fun q _ _ => o q (by omega) (by omega) (by omega) (by omega)) b4, spT_x f.1 (fun q _ => o q (by omega) (by omega) (by omega) (by omega)) b5, ?_⟩, ⟨Nat.zero_le _, t2, ?_, fun i hi => absurd hi (Nat.not_lt_zero _)⟩, ?_, ⟨d1, ca_x (fun q _ _ => o q (by omega) (by omega) (by omega) (by omega)) d2⟩, ⟨e1, cr_x (fun q _ => o q (by omega) (by omega) (by omega) (by omega)) e2⟩, cc_x f.1 f.2.1 (fun k _ _ => by rw [o (X + 66) (by omega) (by omega) (by omega) (by omega)]) (fun q _ => o q (by omega) (by omega) (by omega) (by omega)) (fun q _ => f.2.2.2 q (by omega) (by omega)) k⟩
  · unfold Cb at a ⊢
    show Shp X (mm_K ν) (mm_P ν) ∧ (c = X + 21 ∧ mm_P ν X 14 = some (X + 39) ∨ c = X + 39 ∧ mm_P ν X 14 = some (X + 21)) ∧ mm_P ν X 13 = some c ∧ mm_P ν (X + 66) 5 = some c
    rw [f.1, tl_K f.2.1]
    exact a
  · rw [o X (by omega) (by omega) (by omega) (by omega)]; exact b6
  · rw [rI, if_pos ⟨rfl, rfl⟩]; rfl
  · unfold Cf
    rw [iI, if_neg (by omega)]
    exact hF
end SET
