/-! ===== a new town: both ===== -/
section SET
variable {b L : Nat} {xs : Nat → Int32} {X n i c c' : Nat} {B : Nat → Nat} {s : Sv} {μ ν ρ : Mm} {D : Tn}
theorem okA_0 (T : Tn) : OkA T A0 := ⟨⟨Nat.zero_le _, Nat.zero_le _, Nat.zero_le _⟩, fun i hi => absurd hi (Nat.not_lt_zero _), fun i j _ hj => absurd hj (Nat.not_lt_zero _), fun i hi => absurd hi (Nat.not_lt_zero _), fun i j _ hj => absurd hj (Nat.not_lt_zero _)⟩
theorem ChC_t3 (h1 : ∀ q, inM X q → mm_I ν q = mm_I μ q) (h2 : ∀ q, inM X q → mm_L ν q = mm_L μ q) (h3 : ∀ q, q < X → mm_I ν q = mm_I μ q) (h4 : mm_K ν = mm_K μ) : ChC X μ ν := ⟨h1, h2, fun q hq => ⟨h3 q hq, by rw [h4]⟩⟩
theorem c_town (h : IC X i c s μ) (hS : HS μ) : (∀ f, rdT s.2.2.1 s.2.2.2.1 = .inl f → ∃ ν, f_X10_town X μ = some (-1, ν) ∧ IC X (i + 1) c (s.1, s.2.1, 0, s.2.2.2.1, (nI f.1, nI f.2), s.2.2.2.2.2) ν ∧ ChC X μ ν) ∧ (∀ D, rdT s.2.2.1 s.2.2.2.1 = .inr D → ∃ ν c', f_X10_town X μ = some (nI (D 0 12), ν) ∧ IC X (i + 1) c' (D, 0, 0, s.2.2.2.1, (0, -1), A0, R0) ν ∧ ChC X μ ν) := by
  have h1 := h.1.1
  obtain ⟨c', hcc⟩ : ∃ c', (c = X + 21 ∧ c' = X + 39 ∨ c = X + 39 ∧ c' = X + 21) ∧ mm_P μ X 14 = some c' := by
    rcases h.1.2.1 with ⟨e, e'⟩ | ⟨e, e'⟩
    · exact ⟨X + 39, Or.inl ⟨e, rfl⟩, e'⟩
    · exact ⟨X + 21, Or.inr ⟨e, rfl⟩, e'⟩
  obtain ⟨hcc, h14⟩ := hcc
  have hc' : c' = X + 21 ∨ c' = X + 39 := by omega
  have rd := c_read h1 hS h.2.2.1 hc'
  have hI1 : IC X i c s (ms_P μ (X + 57) 1 (some c')) := IC_P57 h
  have m1P : ∀ q k, q ≠ X + 57 → mm_P (ms_P μ (X + 57) 1 (some c')) q k = mm_P μ q k := fun q k hq => by rw [rP, if_neg (fun z => hq z.1)]
  have m1I : mm_I (ms_P μ (X + 57) 1 (some c')) = mm_I μ := rfl
  have m1L : mm_L (ms_P μ (X + 57) 1 (some c')) = mm_L μ := rfl
  have m1K : mm_K (ms_P μ (X + 57) 1 (some c')) = mm_K μ := rfl
  generalize ms_P μ (X + 57) 1 (some c') = μ1 at rd hI1 m1P m1I m1L m1K
  obtain ⟨z, hz⟩ : ∃ z, z = f_X10_town X μ := ⟨_, rfl⟩
  have body := hz
  unfold f_X10_town at body
  rw [if_pos (by rw [mk_0 h1]), rp_0_2 h1, ob, e_gfP (by rw [mk_0 h1]) h14, ob] at body
  refine ⟨fun f hf => ?_, fun D hD => ?_⟩
  · rw [hf] at rd
    obtain ⟨ν, a1, a2, a3⟩ := rd
    have g1 := FrC_sh a2 hI1.1.1
    rw [a1, ob, rp_0_0 g1, ob, wf_1 g1, ob, if_pos rfl] at body
    refine ⟨_, hz.symm.trans body, IC_up (IC_flt hI1 hcc a2 a3), ChC_t3 (fun q hq => ?_) (fun q hq => ?_) (fun q hq => ?_) ?_⟩
    · unfold inM at hq
      rw [iI, if_neg (by omega), a2.2.2.1 q (by omega) (by omega) (by omega), m1I]
    · unfold inM at hq
      show mm_L ν q = _
      rw [a2.2.2.2 q (by omega) (by omega), m1L]
    · rw [iI, if_neg (by omega), a2.2.2.1 q (by omega) (by omega) (by omega), m1I]
    · exact (tl_K a2.2.1).trans m1K
  · rw [hD] at rd
    obtain ⟨ν, a1, a2, a3, a4, a5, a6, a7, a8⟩ := rd
    have g1 := FrC_sh a2 hI1.1.1
    have v13 : mm_P ν X 13 = some c := by rw [a2.1, m1P _ _ (by omega)]; exact h.1.2.2.1
    have v14 : mm_P ν X 14 = some c' := by rw [a2.1, m1P _ _ (by omega)]; exact h14
    rw [a1, ob, rp_0_0 g1, ob, wf_1 g1, ob, if_neg one_ne] at body
    have g2 : Sh X (ms_I ν (X + 1) 1 0) := g1
    have g3 : Sh X (ms_P (ms_I ν (X + 1) 1 0) X 13 (some c')) := sh_P0 (Or.inl rfl) g2
    have g4 : Sh X (ms_P (ms_P (ms_I ν (X + 1) 1 0) X 13 (some c')) X 14 (some c)) := sh_P0 (Or.inr rfl) g3
    rw [e_gfP (by rw [mk_0 g2]) (show mm_P (ms_I ν (X + 1) 1 0) X 13 = some c from v13), ob, e_gfP (by rw [mk_0 g2]) (show mm_P (ms_I ν (X + 1) 1 0) X 14 = some c' from v14), ob, e_pfP (by rw [mk_0 g2]), ob, e_pfP (by rw [mk_0 g3]), ob] at body
    have q13 : mm_P (ms_P (ms_P (ms_I ν (X + 1) 1 0) X 13 (some c')) X 14 (some c)) X 13 = some c' := by rw [rP, if_neg (by omega), rP, if_pos ⟨rfl, rfl⟩]
    have q14 : mm_P (ms_P (ms_P (ms_I ν (X + 1) 1 0) X 13 (some c')) X 14 (some c)) X 14 = some c := by rw [rP, if_pos ⟨rfl, rfl⟩]
    have qP : ∀ q k, q ≠ X → mm_P (ms_P (ms_P (ms_I ν (X + 1) 1 0) X 13 (some c')) X 14 (some c)) q k = mm_P ν q k := fun q k hq => by
      rw [rP, if_neg (fun z => hq z.1), rP, if_neg (fun z => hq z.1)]
      rfl
    have qI : mm_I (ms_P (ms_P (ms_I ν (X + 1) 1 0) X 13 (some c')) X 14 (some c)) = mm_I (ms_I ν (X + 1) 1 0) := rfl
    have qL : mm_L (ms_P (ms_P (ms_I ν (X + 1) 1 0) X 13 (some c')) X 14 (some c)) = mm_L ν := rfl
    have qT : tl (ms_P (ms_P (ms_I ν (X + 1) 1 0) X 13 (some c')) X 14 (some c)) = tl ν := rfl
    generalize ms_P (ms_P (ms_I ν (X + 1) 1 0) X 13 (some c')) X 14 (some c) = μ2 at body g4 q13 q14 qP qI qL qT
    have oI' : ∀ q, q ≠ X + 1 → mm_I μ2 q = mm_I ν q := fun q hq => by rw [qI, iI, if_neg hq]
    have ct2 : CTn c' D μ2 := ctn_x (fun q _ _ => oI' q (by omega)) a3
    have tu2 : TuP c' D μ2 := tuP_x (fun q _ _ => oI' q (by omega)) a4
    obtain ⟨ρ, s1, s2, s3, s4, s5, s6, s7, s8, s9, s10⟩ := e_settC g4 hc' q13 a5 ct2 tu2 a6
    have g5 : Sh X ρ := by
      refine ⟨fun q hq => by rw [tl_K s2]; exact g4.1 q hq, fun q hq => ?_⟩
      have key : ∀ q ∈ p_tab, ¬ ((q.1 = 58 ∧ q.2.1 = 7) ∨ (q.1 = 66 ∧ q.2.1 = 5)) := by decide +kernel
      rw [s3, if_neg (fun z => key q hq (by omega))]
      exact g4.2 q hq
    have r13 : mm_P ρ X 13 = some c' := by rw [s3, if_neg (by omega)]; exact q13
    have ct3 : CTn c' D ρ := ctn_x (fun q _ _ => s10 q (by omega) (by omega) (by omega) (by omega) (by omega) (by omega) (by omega)) ct2
    have tu3 : TuP c' D ρ := tuP_x (fun q _ _ => s10 q (by omega) (by omega) (by omega) (by omega) (by omega) (by omega) (by omega)) tu2
    rw [s1, ob, e_gfP (by rw [mk_0 g5]) r13, ob, ct_cl (tws_c g5 hc') ct3, ob] at body
    have full : ∀ q, q ≠ X + 1 → q ≠ X + 3 → q ≠ X + 57 → (q < c' ∨ c' + 18 ≤ q) → q ≠ X → q ≠ X + 4 → q ≠ X + 13 → (q < X + 59 ∨ X + 66 < q) → q ≠ X + 84 → q ≠ X + 86 → q ≠ X + 88 → mm_I ρ q = mm_I μ q := fun q h1 h2 h3 h4 h5 h6 h7 h8 h9 h10 h11 => by
      rw [s10 q h5 h6 h7 h8 h9 h10 h11, oI' q h1, a2.2.2.1 q h2 h3 h4, m1I]
    have fullL : ∀ q, q ≠ X + 3 → q ≠ c' + 1 → mm_L ρ q = mm_L μ q := fun q h1 h2 => by rw [s4, qL, a2.2.2.2 q h1 h2, m1L]
    have fullK : mm_K ρ = mm_K μ := by rw [tl_K s2, tl_K qT, tl_K a2.2.1, m1K]
    have fullT : tl ρ = tl μ1 := s2.trans (qT.trans a2.2.1)
    refine ⟨ρ, c', hz.symm.trans body, ⟨⟨g5, ?_, r13, ?_⟩, ⟨a5, a6, ct3, tu3, s5, s6⟩, ⟨Nat.zero_le _, h.2.2.1.2.1, ?_, fun i hi => absurd hi (Nat.not_lt_zero _)⟩, ⟨?_, ?_⟩, ⟨okA_0 D, s7, fun i hi => absurd hi (Nat.not_lt_zero _), fun i hi => absurd hi (Nat.not_lt_zero _)⟩, ⟨fun j hj => by (cases hj), ⟨s9.1, fun z => by (cases z)⟩, ⟨s9.2.1, fun z => by (cases z)⟩, ⟨s9.2.2.1, fun z => by (cases z)⟩, ⟨s9.2.2.2, fun z => by (cases z)⟩⟩, ?_⟩, ChC_t3 (fun q hq => ?_) (fun q hq => ?_) (fun q hq => ?_) fullK⟩
    · have : mm_P ρ X 14 = some c := by rw [s3, if_neg (by omega)]; exact q14
      rw [this]
      rcases hcc with ⟨e1, e2⟩ | ⟨e1, e2⟩
      · right; exact ⟨e2, by rw [e1]⟩
      · left; exact ⟨e2, by rw [e1]⟩
    · rw [s3, if_pos (Or.inr ⟨rfl, rfl⟩)]
    · rw [s10 _ (by omega) (by omega) (by omega) (by omega) (by omega) (by omega) (by omega), qI, rI, if_pos ⟨rfl, rfl⟩]; rfl
    · rw [s10 _ (by omega) (by omega) (by omega) (by omega) (by omega) (by omega) (by omega), oI' _ (by omega)]; exact a7
    · rw [s10 _ (by omega) (by omega) (by omega) (by omega) (by omega) (by omega) (by omega), oI' _ (by omega)]; exact a8
    · obtain ⟨Rw, Ft, nr, sz, fo, Ml, Ln, as, k1, k2, k3, k4, k5, k6, k7, k8⟩ := hI1.2.2.2.2.2.2
      have pP : ∀ q k, q ≠ X → q ≠ X + 58 → (q = X + 66 → k ≠ 5) → mm_P ρ q k = mm_P μ1 q k := fun q k h1 h2 h3 => by
        rw [s3, if_neg (by omega), qP q k h1, a2.1]
      refine ⟨Rw, Ft, nr, 0, 0, Ml, Ln, false, ?_, fun f hf => ?_, k3, ⟨s8.1, s8.2.1, s8.2.2, Or.inl rfl, by decide⟩, fun z => absurd rfl z, fun f hf => ?_, fun z => by (cases z), ?_⟩
      · rw [pP _ _ (by omega) (by omega) (by omega), pP _ _ (by omega) (by omega) (by omega), tl_K fullT, tl_N fullT]; exact k1
      · rw [pP _ _ (by omega) (by omega) (by omega), tl_K fullT, tl_N fullT]; exact k2 f hf
      · rw [Nat.zero_testBit] at hf; cases hf
      · rw [tl_N fullT, tl_Z fullT]; exact k8
    · unfold inM at hq
      exact full q (by omega) (by omega) (by omega) (by omega) (by omega) (by omega) (by omega) (by omega) (by omega) (by omega) (by omega)
    · unfold inM at hq
      exact fullL q (by omega) (by omega)
    · exact full q (by omega) (by omega) (by omega) (by omega) (by omega) (by omega) (by omega) (by omega) (by omega) (by omega) (by omega)
/-- what the model keeps while it reads a town -/
theorem IR_flt {F : Int32 × Int32} (h : IR X s μ) (ok : OkT s.1) (h0 : s.2.2.1 = 0) (f : FrM X μ ν) (hF : mm_I ν (X + 90) 8 = F.1 ∧ mm_I ν (X + 90) 9 = F.2) : IR X (s.1, s.2.1, 0, s.2.2.2.1, F, s.2.2.2.2.2) ν ∧ ChM X μ ν := by
  obtain ⟨a, ⟨b1, b2, b3, b4, b5, b6⟩, ⟨t1, -⟩, -, h4, h5⟩ := h
  have k90 := f.2.2.2.2.1
  have kL := f.2.2.2.2.2.1
  refine ⟨⟨FrM_sh f a, ⟨f.2.2.2.2.2.2 _ ok b1, ?_, ?_, ?_, ?_, ?_⟩, ⟨?_, fun i hi => absurd hi (Nat.not_lt_zero _)⟩, hF, ra_x (fun k hk => k90 k (by omega)) (fun q g1 g2 => f.2.2.1 q (by omega) (by omega)) h4, ?_⟩, fun q hq => ?_, fun q hq => ?_, f.1, f.2.1⟩
  · rw [k90 30 (by omega)]; exact b2
  · rw [k90 32 (by omega)]; exact b3
  · rw [k90 33 (by omega)]; exact b4
  · rw [k90 37 (by omega)]; exact b5
  · rw [f.2.2.2.1 _ (by omega) (by omega)]; exact b6
  · rw [k90 1 (by omega), t1, h0]
  · unfold Rr at h5 ⊢
    rw [k90 64 (by omega), k90 65 (by omega), k90 66 (by omega), kL 67 (by decide), f.2.2.1 (X + 130) (by omega) (by omega), f.2.2.1 (X + 131) (by omega) (by omega), f.2.2.1 (X + 132) (by omega) (by omega), f.2.2.2.1 (X + 133) (by omega) (by omega), f.2.2.1 (X + 134) (by omega) (by omega)]
    exact h5
  · unfold inM at hq
    exact f.2.2.1 q (by omega) (by omega)
  · unfold inM at hq
    exact f.2.2.2.1 q (by omega) (by omega)
theorem m_town (h : IR X s μ) (hS : HS μ) (ok : OkT s.1) (n9 : s.2.2.1 ≤ 900) (hB : ∀ p, s.2.2.2.1 p < 256) : (∀ f, rdT s.2.2.1 s.2.2.2.1 = .inl f → ∃ ν, f_X11_town (X + 90) μ = some (-1, ν) ∧ IR X (s.1, s.2.1, 0, s.2.2.2.1, (nI f.1, nI f.2), s.2.2.2.2.2) ν ∧ ChM X μ ν) ∧ (∀ D, rdT s.2.2.1 s.2.2.2.1 = .inr D → ∃ ν, f_X11_town (X + 90) μ = some (nI (D 0 12), ν) ∧ IR X (D, 0, 0, s.2.2.2.1, (0, -1), A0, R0) ν ∧ ChM X μ ν) := by
  have h1 := h.1
  obtain ⟨ν, a1, a2, a3, a4, a5, a6, a7, a8⟩ := r_tape hS h n9 hB
  have g1 := a2.1
  have hSν : HS ν := FrM_S a3.2.2.2 hS
  have mt0 : MT X s.2.2.1 s.2.2.2.1 0 ν := by
    refine ⟨⟨g1, hSν, a4⟩, ⟨a5.1, a8, a5.2.1, ?_, fun e => (a6 e).2, a5.2.2⟩, Nat.zero_le _⟩
    unfold tQ
    by_cases e : tk s.2.2.1 s.2.2.2.1 0 = 1
    · rw [if_pos e]; exact (a6 e).1
    · rw [if_neg e]; exact a7 e
  obtain ⟨z, hz⟩ : ∃ z, z = f_X11_town (X + 90) μ := ⟨_, rfl⟩
  have body := hz
  unfold f_X11_town at body
  rw [if_pos (by rw [mk_90 h1]), a1, ob, wf_90 g1, ob, wf_90 (shI' g1 _ _ _), ob] at body
  have mt1 : MT X s.2.2.1 s.2.2.2.1 0 (ms_I (ms_I ν (X + 90) 8 0) (X + 90) 9 (-1)) := MT_f (by omega) (MT_f (by omega) mt0)
  have f1 : FrM X ν (ms_I (ms_I ν (X + 90) 8 0) (X + 90) 9 (-1)) := FrM_t (FrM_90 (by omega)) (FrM_90 (by omega))
  have v8 : mm_I (ms_I (ms_I ν (X + 90) 8 0) (X + 90) 9 (-1)) (X + 90) 8 = 0 := by rw [rI, if_neg (by omega), rI, if_pos ⟨rfl, rfl⟩]
  have v9 : mm_I (ms_I (ms_I ν (X + 90) 8 0) (X + 90) 9 (-1)) (X + 90) 9 = -1 := by rw [rI, if_pos ⟨rfl, rfl⟩]
  generalize ms_I (ms_I ν (X + 90) 8 0) (X + 90) 9 (-1) = ν1 at body mt1 f1 v8 v9
  obtain ⟨ν2, b1, b2, b3, b4, b5, b6, b7⟩ := e_begin mt1.1.1
  have bP : mm_P ν2 = mm_P ν1 := p_X11_begin b1
  have bL : mm_L ν2 = mm_L ν1 := l_X11_begin b1
  have bT : tl ν2 = tl ν1 := t_X11_begin b1
  rw [b1, ob] at body
  have f2 : FrM X ν1 ν2 := by
    refine ⟨bP, bT, fun q h1 h2 => b4 q h1 (by omega) (by omega) (by omega), fun q _ _ => by rw [bL], fun k hk => b5 k (by omega), fun k _ => by rw [bL], fun T okT m => ?_⟩
    obtain ⟨m1, m2, m3, m4, m5, m6, m7, m8⟩ := m
    refine ⟨fun j hj => ?_, fun j hj => ?_, fun j hj => ?_, fun j hj => ?_, fun j hj => ?_, fun j hj => ?_, fun j hj => ?_, fun j hj => ?_⟩
    · exact (b6 (11 * 0 + j) (by omega)).trans (m1 j hj)
    · exact (b7 (8 * 0 + j) (by omega)).1.trans (m2 j hj)
    · rw [b4 _ (by omega) (by omega) (by omega) (by omega), b4 _ (by omega) (by omega) (by omega) (by omega)]; exact m3 j hj
    · rw [b4 _ (by omega) (by omega) (by omega) (by omega), b4 _ (by omega) (by omega) (by omega) (by omega), b4 _ (by omega) (by omega) (by omega) (by omega)]; exact m4 j hj
    · rw [b4 _ (by omega) (by omega) (by omega) (by omega), b4 _ (by omega) (by omega) (by omega) (by omega)]; exact m5 j hj
    · rw [b4 _ (by omega) (by omega) (by omega) (by omega), b4 _ (by omega) (by omega) (by omega) (by omega), b4 _ (by omega) (by omega) (by omega) (by omega)]; exact m6 j hj
    · rw [b4 _ (by omega) (by omega) (by omega) (by omega), b4 _ (by omega) (by omega) (by omega) (by omega), b4 _ (by omega) (by omega) (by omega) (by omega), b4 _ (by omega) (by omega) (by omega) (by omega)]; exact m7 j hj
    · exact (b7 (8 * 0 + j) (by omega)).2.trans (m8 j hj)
  have ms0 : MS X s.2.2.1 s.2.2.2.1 S0 0 ν2 := by
    obtain ⟨q1, ⟨t1, t2, t3, t4, t5, t6⟩, q3⟩ := mt1
    refine ⟨⟨FrM_h f2 q1, ⟨?_, ?_, ?_, ?_, ?_, fun e => ?_⟩, q3⟩, ok_D0, b2, fun k hk => absurd hk (Nat.not_lt_zero _), 0, b3, by decide, fun t _ => Nat.zero_testBit t, ?_, ?_⟩
    · rw [b5 3 (by decide)]; exact t1
    · rw [b5 5 (by decide)]; exact t2
    · rw [b5 6 (by decide)]; exact t3
    · rw [b5 4 (by decide)]; exact t4
    · rw [bL]; exact t5
    · rw [b5 7 (by decide)]; exact t6 e
    · rw [b5 8 (by decide)]; exact v8
    · rw [b5 9 (by decide)]; exact v9
  have ko := KOut_t (FrM_t f1 f2) (m_rdl (s.2.2.1 + 1) 0 S0 0 ν2 ms0 (by omega) (Nat.le_refl _) rfl)
  replace ko : KOut X s.2.2.1 s.2.2.2.1 ν (whl (f_X11_town_L20 (X + 90)) ((0 : Int32), ν2)) (rdl s.2.2.1 s.2.2.2.1 (s.2.2.1 + 1) S0 0) := ko
  have flt : ∀ (f : Nat × Nat) (π : Mm), z = some (-1, π) → FrM X ν π → FltM X f π → ∃ π, f_X11_town (X + 90) μ = some (-1, π) ∧ IR X (s.1, s.2.1, 0, s.2.2.2.1, (nI f.1, nI f.2), s.2.2.2.2.2) π ∧ ChM X μ π := by
    intro f π e1 e2 e3
    obtain ⟨k1, k2⟩ := IR_flt (s := (s.1, s.2.1, 0, s.2.2.2.1, s.2.2.2.2)) (F := (nI f.1, nI f.2)) a2 ok rfl e2 e3
    exact ⟨π, hz.symm.trans e1, k1, ChM_t a3 k2⟩
  unfold rdT
  cases er : rdl s.2.2.1 s.2.2.2.1 (s.2.2.1 + 1) S0 0 with
  | inl f =>
    rw [er] at ko
    obtain ⟨π, c1, c2, c3⟩ := ko
    refine ⟨fun f' hf => ?_, fun D hD => by (cases hD)⟩
    cases hf
    exact flt f π (body.trans c1) c2 c3
  | inr w =>
    rw [er] at ko
    obtain ⟨π, c1, c2, cM, okD, cD⟩ := ko
    rw [c1, ob] at body
    have gπ := cM.1.1
    replace body : z = f_X11_town_J63 (X + 90) (nI (w.1.1 0 12)) π := body
    unfold f_X11_town_J63 at body
    have can := e_canAll gπ cD.1 okD (w.1.1 0 0) 10 0 0 (by have := okD.1.1; omega) (by omega) (by decide)
    rw [canAll_EN okD] at can
    rw [show f_X11_canAll 10 (X + 90) 0 0 π = _ from can, ob] at body
    show (∀ f, (if 0 < (EN w.1.1).length then .inr w.1.1 else .inl (4, tP s.2.2.1 s.2.2.2.1 w.2)) = (.inl f : Er Tn) → _) ∧ (∀ D, (if 0 < (EN w.1.1).length then .inr w.1.1 else .inl (4, tP s.2.2.1 s.2.2.2.1 w.2)) = (.inr D : Er Tn) → _)
    by_cases e5 : 0 < (EN w.1.1).length
    · rw [if_pos e5]
      rw [decide_eq_true e5, if_neg (by decide)] at body
      refine ⟨fun f hf => by (cases hf), fun D hD => ?_⟩
      cases hD
      obtain ⟨τ, d1, d2, d3, d4, d5, d6, d7, d8, d9, d10⟩ := e_settR gπ okD cD.1
      have gτ : Sh X τ := sh_x d2 d3 gπ
      rw [d1, ob, wf_90 gτ, ob] at body
      obtain ⟨o, o1, o2, o3, o4, o5⟩ := cD.2.2
      have k90 : ∀ k, k < 3 ∨ (12 ≤ k ∧ k ≠ 31) → mm_I π (X + 90) k = mm_I ν (X + 90) k := c2.2.2.2.2.1
      refine ⟨_, hz.symm.trans body, ⟨gτ, ⟨mtn_x (fun q _ _ => by rw [iI, if_neg (by omega)]) d4, ?_, ?_, ?_, ?_, d7⟩, ⟨?_, fun i hi => absurd hi (Nat.not_lt_zero _)⟩, ⟨?_, ?_⟩, ⟨⟨?_, ?_, ?_⟩, fun i hi => absurd hi (Nat.not_lt_zero _), fun i hi => absurd hi (Nat.not_lt_zero _)⟩, ⟨?_, fun z => by (cases z)⟩, fun j hj => ⟨?_, fun z => by (cases z)⟩⟩, ChM_t a3 ⟨fun q hq => ?_, fun q hq => ?_, ?_, ?_⟩⟩
      · rw [rI, if_pos ⟨rfl, rfl⟩]
      · rw [rI, if_neg (by omega)]; exact d5.1
      · rw [rI, if_neg (by omega)]; exact d5.2.1
      · rw [rI, if_neg (by omega), d8 37 (by decide) (by decide) (by decide) (by decide) (by decide) (by decide), k90 37 (by omega)]
        exact a2.2.1.2.2.2.2.1
      · rw [rI, if_neg (by omega), d8 1 (by decide) (by decide) (by decide) (by decide) (by decide) (by decide), k90 1 (by omega)]
        exact a2.2.2.1.1
      · rw [rI, if_neg (by omega), d8 8 (by decide) (by decide) (by decide) (by decide) (by decide) (by decide)]; exact o4
      · rw [rI, if_neg (by omega), d8 9 (by decide) (by decide) (by decide) (by decide) (by decide) (by decide)]; exact o5
      · rw [rI, if_neg (by omega)]; exact d5.2.2.1
      · rw [rI, if_neg (by omega)]; exact d5.2.2.2.1
      · rw [rI, if_neg (by omega)]; exact d5.2.2.2.2.1
      · rw [rI, if_neg (by omega)]; exact d5.2.2.2.2.2
      · rw [iI, if_neg (by omega)]; exact d6 j hj
      · unfold inM at hq
        rw [iI, if_neg (by omega), d9 q (by omega) (by omega) (by omega)]
        exact c2.2.2.1 q (by omega) (by omega)
      · unfold inM at hq
        show mm_L τ q = _
        rw [d10 q (by omega)]
        exact c2.2.2.2.1 q (by omega) (by omega)
      · exact d2.trans c2.1
      · exact d3.trans c2.2.1
    · rw [if_neg e5]
      obtain ⟨τ, t1, t2, t3⟩ := m_fl (v := 4) cM
      replace t1 : f_X11_fails (X + 90) 4 π = some (0, τ) := t1
      rw [decide_eq_false e5, if_pos (by rfl), t1, ob] at body
      refine ⟨fun f hf => ?_, fun D hD => by (cases hD)⟩
      cases hf
      exact flt _ τ body (FrM_t c2 t2) t3
theorem k_town (h0 : mm_K μ b = (19, L) ∧ mm_I μ b = xs ∧ b < X) (hS : HS μ) (h : IC X i c s μ) (hR : IR X s μ) : ∃ r μ1 μ2, f_X10_town X μ = some (r, μ1) ∧ f_X11_town (X + 90) μ1 = some (r, μ2) ∧ Inv b L xs X (i + 1) μ2 ∧ (mm_K μ1 b = (19, L) ∧ mm_I μ1 b = xs) := by
  have ok := h.2.1.1
  have n9 := h.2.2.1.1
  have hB := h.2.2.1.2.1
  obtain ⟨A1, A2⟩ := c_town h hS
  cases e : rdT s.2.2.1 s.2.2.2.1 with
  | inl f =>
    obtain ⟨ν, a1, a2, a3⟩ := A1 f e
    have hSν : HS ν := by
      have := t_X10_town a1
      exact FrM_S this hS
    exact both (y := f_X11_town (X + 90)) h0 hR a1 a2 a3 (fun hR' => (m_town hR' hSν ok n9 hB).1 f e)
  | inr D =>
    obtain ⟨ν, c', a1, a2, a3⟩ := A2 D e
    have hSν : HS ν := by
      have := t_X10_town a1
      exact FrM_S this hS
    exact both (y := f_X11_town (X + 90)) h0 hR a1 a2 a3 (fun hR' => (m_town hR' hSν ok n9 hB).2 D e)
end SET
