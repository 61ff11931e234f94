/-! ===== the class's census: comings are found ===== -/
section CEN
variable {X i c : Nat} {s : Sv} {μ ν ρ : Mm}
variable {Rw Ft nr sz fo : Nat} {Ml Ln : Nat → Nat}
/-- a run of the census, turnings listed -/
def ZI (X : Nat) (s : Sv) (μ : Mm) (Rw Ft nr fo : Nat) (Ml Ln : Nat → Nat) (ν : Mm) : Prop := FrZ X μ ν ∧ Cz X s.1 Rw Ft nr (EN s.1).length fo Ml Ln ν ∧ (∀ k, k ≠ 9 → k ≠ 10 → mm_I ν (X + 66) k = mm_I μ (X + 66) k) ∧ mm_I ν (X + 81) = mm_I μ (X + 81)
theorem ic_N (h : IC X i c s μ) : X + 135 ≤ mm_N μ := by
  obtain ⟨Rw, Ft, nr, sz, fo, Ml, Ln, as, h1, h2, h3, h4, h5, h6, h7, h8⟩ := h.2.2.2.2.2.2
  exact h8.1
theorem ic_ak (h : IC X i c s μ) : ∃ as, Ak X s.1 s.2.2.2.2.2.1 as μ := by
  obtain ⟨Rw, Ft, nr, sz, fo, Ml, Ln, as, h1, h2⟩ := cc_z h.2.2.2.2.2.2
  exact ⟨as, h2⟩
/-- what the census needs of the class -/
def IW (X c : Nat) (s : Sv) (μ : Mm) : Prop := Cb X c μ ∧ Ct X c s.1 s.2.1 μ ∧ (OkA s.1 s.2.2.2.2.2.1 ∧ Ca X s.2.2.2.2.2.1 μ) ∧ X + 135 ≤ mm_N μ
theorem IC_w (h : IC X i c s μ) : IW X c s μ := ⟨h.1, h.2.1, h.2.2.2.2.1, ic_N h⟩
theorem IW_z (h : IW X c s μ) (f : FrZ X μ ν) : IW X c s ν := by
  obtain ⟨⟨a1, a2, a3, a4⟩, ⟨b1, b2, b3, b4, b5, b6⟩, ⟨h5a, h5⟩, hn⟩ := h
  have hI := f.2.2.1
  have hi : ∀ q, X ≤ q → q < X + 135 → q ≠ X + 58 → q ≠ X + 62 → q ≠ X + 63 → q ≠ X + 66 → q ≠ X + 80 → q ≠ X + 81 → q ≠ X + 82 → q ≠ X + 83 → mm_I ν q = mm_I μ q := fun q _ g1 g2 g3 g4 g5 g6 g7 g8 g9 => hI q g1 g2 g3 g4 g5 g6 g7 g8 g9
  refine ⟨⟨FrZ_sh f hn a1, ?_, ?_, ?_⟩, ⟨b1, b2, ctn_x (fun q _ _ => hi q (by omega) (by omega) (by omega) (by omega) (by omega) (by omega) (by omega) (by omega) (by omega) (by omega)) b3, tuP_x (fun q _ _ => hi q (by omega) (by omega) (by omega) (by omega) (by omega) (by omega) (by omega) (by omega) (by omega) (by omega)) b4, ?_, ?_⟩, ⟨h5a, ca_x (fun q _ _ => hi q (by omega) (by omega) (by omega) (by omega) (by omega) (by omega) (by omega) (by omega) (by omega) (by omega)) h5⟩, Nat.le_trans hn f.1.2.1⟩
  · rw [f.2.1 _ _ (by omega) (by omega) (by omega)]; exact a2
  · rw [f.2.1 _ _ (by omega) (by omega) (by omega)]; exact a3
  · rw [f.2.1 _ _ (by omega) (by omega) (by omega)]; exact a4
  · obtain ⟨b5a, b5b⟩ := b5
    unfold SpT
    rw [f.2.1 _ _ (by omega) (by omega) (by omega), hi (X + 59) (by omega) (by omega) (by omega) (by omega) (by omega) (by omega) (by omega) (by omega) (by omega) (by omega), hi (X + 60) (by omega) (by omega) (by omega) (by omega) (by omega) (by omega) (by omega) (by omega) (by omega) (by omega), hi (X + 61) (by omega) (by omega) (by omega) (by omega) (by omega) (by omega) (by omega) (by omega) (by omega) (by omega), hi (X + 64) (by omega) (by omega) (by omega) (by omega) (by omega) (by omega) (by omega) (by omega) (by omega) (by omega), hi (X + 65) (by omega) (by omega) (by omega) (by omega) (by omega) (by omega) (by omega) (by omega) (by omega) (by omega)]
    exact ⟨b5a, b5b⟩
  · rw [hi X (by omega) (by omega) (by omega) (by omega) (by omega) (by omega) (by omega) (by omega) (by omega) (by omega)]; exact b6
theorem sp_trw (h : IW X c s μ) (t : Nat) (ht : t < (EN s.1).length) : f_X4_setTurning (X + 58) (nI (cr s.1 (rwT s.1 t))) μ = some (m_tr X (dr s.1 t) μ) ∧ Sp X c s.1 (dr s.1 t) (m_tr X (dr s.1 t) μ) := by
  obtain ⟨ok, -, hct, -, hsp, -⟩ := h.2.1
  have hc := cb_c h.1
  have hi : ∀ q, q ≠ X + 62 → q ≠ X + 63 → mm_I (m_tr X (dr s.1 t) μ) q = mm_I μ q := fun q h1 h2 => by unfold m_tr; rw [rA, if_neg h1, rA, if_neg h2]
  refine ⟨e_setTurning h.1.1 (cr_lt _ _) ok.1.1 (fun p hp => dr_nb hp) (dr_ok ok ht), h.1, ctn_x (fun q _ _ => hi q (by omega) (by omega)) hct, spT_x (by rfl) (fun q _ => hi q (by omega) (by omega)) hsp, ?_, ?_⟩
  · intro p hp
    unfold m_tr
    rw [rA, if_pos rfl, if_pos hp]
  · intro q hq
    unfold m_tr
    rw [rA, if_neg (by omega), rA, if_pos rfl, if_pos hq]
theorem ZI_ic (h : IC X i c s μ) (z : ZI X s μ Rw Ft nr fo Ml Ln ν) : IC X i c s ν ∧ ChC X μ ν := by
  obtain ⟨as, a1, a2⟩ := ic_ak h
  refine IC_z h z.1 (ic_N h) (z_cc z.2.1 (as := as) ⟨?_, ?_⟩)
  · rw [z.2.2.1 11 (by decide) (by decide)]; exact a1
  · rw [z.2.2.1 12 (by decide) (by decide), z.2.2.1 13 (by decide) (by decide), z.2.2.1 14 (by decide) (by decide)]; exact a2
theorem FrZ_tr {d : Nat → Nat} : FrZ X μ (m_tr X d μ) := FrZ_t (FrZ_A (by omega)) (FrZ_A (by omega))
theorem FrZ_sf {T : Tn} {f : Nat} {w us : Nat → Bool} : FrZ X μ (m_sf X T f w us μ) := by
  unfold m_sf
  exact FrZ_t (FrZ_I (by omega)) (FrZ_t (FrZ_I (by omega)) (FrZ_t (FrZ_I (by omega)) (FrZ_t (FrZ_I (by omega)) (FrZ_t (FrZ_I (by omega)) (FrZ_I (by omega))))))
theorem ZI_tr {d : Nat → Nat} (z : ZI X s μ Rw Ft nr fo Ml Ln ν) : ZI X s μ Rw Ft nr fo Ml Ln (m_tr X d ν) := by
  have o : ∀ q, q ≠ X + 62 → q ≠ X + 63 → mm_I (m_tr X d ν) q = mm_I ν q := fun q h1 h2 => by
    unfold m_tr
    rw [iA, if_neg h1, iA, if_neg h2]
  refine ⟨FrZ_t z.1 FrZ_tr, cz_x (μ := ν) (by rfl) (by rfl) ⟨by rw [o _ (by omega) (by omega)], by rw [o _ (by omega) (by omega)]⟩ (fun q _ _ => o q (by omega) (by omega)) (fun _ _ => rfl) z.2.1, fun k h1 h2 => ?_, ?_⟩
  · rw [o _ (by omega) (by omega)]; exact z.2.2.1 k h1 h2
  · rw [o _ (by omega) (by omega)]; exact z.2.2.2
theorem ZI_sf {T : Tn} {f : Nat} {w us : Nat → Bool} (z : ZI X s μ Rw Ft nr fo Ml Ln ν) : ZI X s μ Rw Ft nr fo Ml Ln (m_sf X T f w us ν) := by
  have o : ∀ q, q ≠ X + 58 → mm_I (m_sf X T f w us ν) q = mm_I ν q := fun q h => m_sf_o X T f w us ν h
  refine ⟨FrZ_t z.1 FrZ_sf, cz_x (μ := ν) (by rfl) (by rfl) ⟨by rw [o _ (by omega)], by rw [o _ (by omega)]⟩ (fun q _ _ => o q (by omega)) (fun _ _ => rfl) z.2.1, fun k h1 h2 => ?_, ?_⟩
  · rw [o _ (by omega)]; exact z.2.2.1 k h1 h2
  · rw [o _ (by omega)]; exact z.2.2.2
theorem ZI_L {f k : Nat} {v : Int64} (hf : f < 12) (hn : fo.testBit f = false) (z : ZI X s μ Rw Ft nr fo Ml Ln ν) : ZI X s μ Rw Ft nr fo Ml Ln (ms_L ν (Ml f) k v) := by
  have hm := (z.2.1.2.1 f hf).2.2.2.1
  exact ⟨FrZ_t z.1 (FrZ_L (by omega)), cz_L hf hn z.2.1, z.2.2.1, z.2.2.2⟩
/-- the lines of some facts, up to a turning -/
def Lq (T : Tn) (Ml : Nat → Nat) (b : Nat → Bool) (t : Nat) (ν : Mm) : Prop := ∀ f, f < 12 → b f = true → ∀ k, k < t → mm_L ν (Ml f) k = mom T (dr T k) f
theorem sp_L {T : Tn} {d : Nat → Nat} {a k : Nat} {v : Int64} (h : Sp X c T d ν) : Sp X c T d (ms_L ν a k v) := h
/-- all facts of a turning -/
theorem z_by {b : Nat → Bool} {t : Nat} (ok : OkT s.1) (ht : t < (EN s.1).length) (hb : ∀ f, b f = true → f < s.1 0 1 ∧ fo.testBit f = false) (hln : ∀ f, f < 12 → b f = true → (EN s.1).length ≤ Ln f) (z : ZI X s μ Rw Ft nr fo Ml Ln ν) (sp : Sp X c s.1 (dr s.1 t) ν) (lq : Lq s.1 Ml b t ν) : ∃ ρ, f_X1_findComingsBy (X + 66) (nI t) (nI (bm b 12)) ν = some ρ ∧ ZI X s μ Rw Ft nr fo Ml Ln ρ ∧ Lq s.1 Ml b (t + 1) ρ ∧ ∀ q, X + 66 ≤ q → mm_I ρ q = mm_I ν q := by
  have h1 := sp.1.1
  have od := dr_ok ok ht
  have hl := EN_len ok
  have n12 := ok.1.2.1
  unfold f_X1_findComingsBy
  rw [if_pos (by rw [mk_66 h1])]
  have key := whl_e (body := f_X1_findComingsBy_L2 (X + 66) (nI t) (nI (bm b 12))) 12 (fun k (st : Int32 × Mm) => ∃ ρ, st = (nI k, ρ) ∧ ZI X s μ Rw Ft nr fo Ml Ln ρ ∧ Sp X c s.1 (dr s.1 t) ρ ∧ Lq s.1 Ml b t ρ ∧ (∀ f, f < k → f < 12 → b f = true → mm_L ρ (Ml f) t = mom s.1 (dr s.1 t) f) ∧ ∀ q, X + 66 ≤ q → mm_I ρ q = mm_I ν q) (Q := fun ρ => ZI X s μ Rw Ft nr fo Ml Ln ρ ∧ Lq s.1 Ml b (t + 1) ρ ∧ ∀ q, X + 66 ≤ q → mm_I ρ q = mm_I ν q) (s0 := ((0 : Int32), ν)) ⟨ν, rfl, z, sp, lq, fun f hf => by omega, fun _ _ => rfl⟩ ?_ ?_
  · obtain ⟨ρ, k1, k2⟩ := key
    exact ⟨ρ, by rw [k1, ob], k2⟩
  · rintro k st hk ⟨ρ, rfl, q1, q2, q3, q4, q5⟩
    have g1 := q2.1.1
    have sh : nI (bm b 12) >>> (nI k &&& 31) = nI (bm b 12 / 2 ^ k) := b_shr (by omega) (bm_31 b (by decide))
    have lt : bm b 12 / 2 ^ k < 2 ^ 31 := Nat.lt_of_le_of_lt (Nat.div_le_self _ _) (bm_31 b (by decide))
    simp only [f_X1_findComingsBy_L2, f_X1_findComingsBy_J59]
    rw [if_neg (by rw [show (12 : Int32) = nI 12 from rfl, nI_le_i (by omega) (by omega)]; omega)]
    by_cases y : bm b 12 / 2 ^ k = 0
    · right
      refine ⟨ρ, by rw [if_pos (by rw [sh, y]; rfl)], q1, fun f hf hbf j hj => ?_, q5⟩
      by_cases w : j = t
      · rw [w]
        by_cases w2 : f < k
        · exact q4 f w2 hf hbf
        · rw [bm_sh0] at y
          rw [y f (by omega) hf] at hbf
          cases hbf
      · exact q3 f hf hbf j (by omega)
    · left
      rw [if_neg (by rw [sh, nI_z lt]; exact y), bmb (by omega) (by decide)]
      cases eb : b k with
      | false =>
        refine ⟨_, by rw [if_pos (show nI false.toNat = 0 from rfl), ob, nI_1], ρ, rfl, q1, q2, q3, fun f hf h12 hbf => ?_, q5⟩
        by_cases w : f = k
        · rw [w, eb] at hbf; cases hbf
        · exact q4 f (by omega) h12 hbf
      | true =>
        obtain ⟨m1, m2, m3, m4, m5⟩ := q1.2.1.2.1 k hk
        obtain ⟨f1, f2⟩ := hb k eb
        have hlk := hln k hk eb
        obtain ⟨s1, s2, s3⟩ := sp_sf (v := 7) (us := fun _ => false) ok q2 f1 (by decide)
        rw [nz] at s1
        have z2 : ZI X s μ Rw Ft nr fo Ml Ln (m_sf X s.1 k (Nat.testBit 7) (fun _ => false) ρ) := ZI_sf q1
        obtain ⟨m1', m2', -, -, -⟩ := z2.2.1.2.1 k hk
        have g2 := s2.1.1
        have cm := e_comings s2 ok od s3 f1
        rw [if_neg (show ¬ nI true.toNat = 0 by decide), rp_66_2 g1, ob, e_gaP (mk_67 g1) hk (by decide) m1, ob, e_len m2 ⟨by decide, by decide⟩, ob, if_neg (by rw [nI_le_i (by omega) (by omega)]; omega), rp_66_0 g1, ob, show f_X4_setFact (X + 58) (nI k) 7 0 ρ = _ from s1, ob, rp_66_2 g2, ob, e_gaP (mk_67 g2) hk (by decide) m1', ob, rp_66_0 g2, ob, cm, ob, e_paL m2' (by omega) (by omega), ob, ob, nI_1]
        refine ⟨_, rfl, _, rfl, ZI_L hk f2 z2, sp_L s2, fun f hf hbf j hj => ?_, fun f hf h12 hbf => ?_, fun q hq => ?_⟩
        · rw [rL, if_neg (by omega)]
          exact q3 f hf hbf j hj
        · rw [rL]
          by_cases w : f = k
          · rw [if_pos ⟨by rw [w], rfl⟩, w]
          · rw [if_neg (fun u => w (q1.2.1.2.2.1 f k h12 hk u.1))]
            exact q4 f (by omega) h12 hbf
        · show mm_I (m_sf X s.1 k (Nat.testBit 7) (fun _ => false) ρ) q = _
          rw [m_sf_o X s.1 k _ _ ρ (by omega)]
          exact q5 q hq
  · rintro st ⟨ρ, rfl, q1, q2, q3, q4, q5⟩
    refine ⟨ρ, by simp only [f_X1_findComingsBy_L2]; rw [if_pos (show (12 : Int32) ≤ nI 12 from nI_le (Nat.le_refl 12) (by decide))], q1, fun f hf hbf j hj => ?_, q5⟩
    by_cases w : j = t
    · rw [w]; exact q4 f hf hf hbf
    · exact q3 f hf hbf j (by omega)
/-- room for the lines -/
theorem z_room {b : Nat → Bool} (h : IW X c s μ) (ok : OkT s.1) (hb : ∀ f, b f = true → fo.testBit f = false) (z : ZI X s μ Rw Ft nr fo Ml Ln ν) : ∃ ρ Ml' Ln', whl (f_X1_findComings_L35 (X + 66) (nI (bm b 12))) ((0 : Int32), ν) = some ρ ∧ ZI X s μ Rw Ft nr fo Ml' Ln' ρ ∧ (∀ f, f < 12 → b f = true → (EN s.1).length ≤ Ln' f) ∧ mm_I ρ Ft = mm_I ν Ft := by
  have hl := EN_len ok
  have key := whl_i (body := f_X1_findComings_L35 (X + 66) (nI (bm b 12))) 12 (fun k (st : Int32 × Mm) => ∃ ρ Ml' Ln', st = (nI k, ρ) ∧ ZI X s μ Rw Ft nr fo Ml' Ln' ρ ∧ (∀ f, f < k → b f = true → (EN s.1).length ≤ Ln' f) ∧ mm_I ρ Ft = mm_I ν Ft) (Q := fun ρ => ∃ Ml' Ln', ZI X s μ Rw Ft nr fo Ml' Ln' ρ ∧ (∀ f, f < 12 → b f = true → (EN s.1).length ≤ Ln' f) ∧ mm_I ρ Ft = mm_I ν Ft) (s0 := ((0 : Int32), ν)) ⟨ν, Ml, Ln, rfl, z, fun f hf => by omega, rfl⟩ ?_ ?_
  · obtain ⟨ρ, k1, Ml', Ln', k2, k3, k4⟩ := key
    exact ⟨ρ, Ml', Ln', k1, k2, k3, k4⟩
  · rintro k st hk ⟨ρ, Ml', Ln', rfl, q1, q2, q3⟩
    have icr := IW_z h q1.1
    have g1 := icr.1.1
    obtain ⟨m1, m2, m3, m4, m5⟩ := q1.2.1.2.1 k hk
    simp only [f_X1_findComings_L35, f_X1_findComings_J84]
    rw [if_neg (by rw [show (12 : Int32) = nI 12 from rfl, nI_le_i (by omega) (by omega)]; omega), rp_66_2 g1, ob, e_gaP (mk_67 g1) hk (by decide) m1, ob, e_len m2 ⟨by decide, by decide⟩, ob, bmb (by omega) (by decide)]
    cases eb : b k with
    | false =>
      refine ⟨_, by rw [if_pos (show nI false.toNat = 0 from rfl), ob, nI_1], ρ, Ml', Ln', rfl, q1, fun f hf hbf => ?_, q3⟩
      by_cases w : f = k
      · rw [w, eb] at hbf; cases hbf
      · exact q2 f (by omega) hbf
    | true =>
      rw [if_neg (show ¬ nI true.toNat = 0 by decide), rf_66 g1, ob, q1.2.1.2.2.2.1.1]
      by_cases e1 : (EN s.1).length ≤ Ln' k
      · refine ⟨_, by rw [if_pos (by rw [nI_le_i (by omega) (by omega)]; exact e1), ob, nI_1], ρ, Ml', Ln', rfl, q1, fun f hf hbf => ?_, q3⟩
        by_cases w : f = k
        · rw [w]; exact e1
        · exact q2 f (by omega) hbf
      · obtain ⟨r1, r2⟩ := rmf_b (had := Ln' k) hl
        obtain ⟨p1, p2⟩ := phi_r (had := Ln' k) (need := (EN s.1).length) (by omega) hl
        have N135 := q1.2.1.2.2.2.2.2.2.1
        have nf := hb k eb
        have fr1 : FrZ X ρ (mn_C ρ 21 (rmf (Ln' k) (EN s.1).length)) := FrZ_N N135
        have g2 := FrZ_sh fr1 N135 g1
        have hK2 : mm_K (mn_C ρ 21 (rmf (Ln' k) (EN s.1).length)) (X + 67) = (25, 12) := mk_67 g2
        have epa : pa_P 25 (X + 67) (nI k) (mm_N ρ) (mn_C ρ 21 (rmf (Ln' k) (EN s.1).length)) = some (ms_P (mn_C ρ 21 (rmf (Ln' k) (EN s.1).length)) (X + 67) k (some (mm_N ρ))) := by
          unfold pa_P
          rw [hK2, if_pos ⟨rfl, nI_ix hk (by decide), by rw [cN_K, if_pos rfl]; rfl⟩, nI_clamp (by omega)]
        refine ⟨_, by rw [if_neg (by rw [nI_le_i (by omega) (by omega)]; exact e1), ob, ob, e_rmf (by omega) hl, ob, e_nwA (by omega), ob, epa, ob, ob, nI_1], ms_P (mn_C ρ 21 (rmf (Ln' k) (EN s.1).length)) (X + 67) k (some (mm_N ρ)), u1 Ml' k (mm_N ρ), u1 Ln' k (rmf (Ln' k) (EN s.1).length), rfl, ?_, fun f hf hbf => ?_, ?_⟩
        · have fr2 : FrZ X ρ (ms_P (mn_C ρ 21 (rmf (Ln' k) (EN s.1).length)) (X + 67) k (some (mm_N ρ))) := FrZ_t fr1 (FrZ_P (by omega))
          have oI' : ∀ q, q < mm_N ρ → mm_I (ms_P (mn_C ρ 21 (rmf (Ln' k) (EN s.1).length)) (X + 67) k (some (mm_N ρ))) q = mm_I ρ q := fun q hq => by
            show mm_I (mn_C ρ 21 (rmf (Ln' k) (EN s.1).length)) q = _
            rw [cN_I, if_neg (by omega)]
          have oL : ∀ q, q < mm_N ρ → mm_L (ms_P (mn_C ρ 21 (rmf (Ln' k) (EN s.1).length)) (X + 67) k (some (mm_N ρ))) q = mm_L ρ q := fun q hq => by
            show mm_L (mn_C ρ 21 (rmf (Ln' k) (EN s.1).length)) q = _
            rw [cN_L, if_neg (by omega)]
          have oP : ∀ q j, q < mm_N ρ → (q = X + 67 → j ≠ k) → mm_P (ms_P (mn_C ρ 21 (rmf (Ln' k) (EN s.1).length)) (X + 67) k (some (mm_N ρ))) q j = mm_P ρ q j := fun q j hq hj => by
            rw [rP, if_neg (fun z => hj z.1 z.2), cN_P, if_neg (by omega)]
          have oK : ∀ q, q < mm_N ρ → mm_K (ms_P (mn_C ρ 21 (rmf (Ln' k) (EN s.1).length)) (X + 67) k (some (mm_N ρ))) q = mm_K ρ q := fun q hq => by
            show mm_K (mn_C ρ 21 (rmf (Ln' k) (EN s.1).length)) q = _
            rw [cN_K, if_neg (by omega)]
          have h12 := fun g (hg : fo.testBit g = true) => cz_12 q1.2.1 hg
          obtain ⟨z1, z2, z3, z4, z5, z6, z8⟩ := q1.2.1
          have sgu : sgl (u1 Ln' k (rmf (Ln' k) (EN s.1).length)) + Ln' k = sgl Ln' + rmf (Ln' k) (EN s.1).length := sg_u (g := Ln') hk
          have sgp : sgl (fun f => phi (u1 Ln' k (rmf (Ln' k) (EN s.1).length) f)) + phi (Ln' k) = sgl (fun f => phi (Ln' f)) + phi (rmf (Ln' k) (EN s.1).length) := by
            have e : (fun f => phi (u1 Ln' k (rmf (Ln' k) (EN s.1).length) f)) = u1 (fun f => phi (Ln' f)) k (phi (rmf (Ln' k) (EN s.1).length)) := by
              funext f
              by_cases w : f = k
              · rw [w, u1_s, u1_s]
              · rw [u1_n _ _ w, u1_n _ _ w]
            rw [e]
            exact sg_u (g := fun f => phi (Ln' f)) hk
          refine ⟨FrZ_t q1.1 fr2, ⟨⟨?_, ?_, ?_, ?_, z1.2.2.2.2.1, z1.2.2.2.2.2.1, z1.2.2.2.2.2.2.1, z1.2.2.2.2.2.2.2.1, ?_, ?_⟩, fun f hf => ?_, fun f g hf hg e => ?_, ?_, fun y => ⟨(z5 y).1, fun j hj => ?_⟩, fun f hf => ?_, ?_, ?_, ?_⟩, fun j h1 h2 => ?_, ?_⟩
          · rw [oP _ _ (by omega) (by omega)]; exact z1.1
          · rw [oP _ _ (by omega) (by omega)]; exact z1.2.1
          · rw [oK _ z1.2.2.2.2.2.2.2.2.1]; exact z1.2.2.1
          · rw [oK _ z1.2.2.2.2.2.2.2.2.2]; exact z1.2.2.2.1
          · show Rw < mm_N ρ + 1
            have := z1.2.2.2.2.2.2.2.2.1
            omega
          · show Ft < mm_N ρ + 1
            have := z1.2.2.2.2.2.2.2.2.2
            omega
          · by_cases w : f = k
            · rw [w, u1_s, u1_s]
              refine ⟨by rw [rP, if_pos ⟨rfl, rfl⟩], ?_, r2, Or.inr N135, Nat.lt_succ_self _⟩
              show mm_K (mn_C ρ 21 (rmf (Ln' k) (EN s.1).length)) (mm_N ρ) = _
              rw [cN_K, if_pos rfl]
            · obtain ⟨w1, w2, w3, w4, w5⟩ := z2 f hf
              rw [u1_n _ _ w, u1_n _ _ w]
              refine ⟨by rw [oP _ _ (by omega) (fun _ => w)]; exact w1, by rw [oK _ w5]; exact w2, w3, w4, ?_⟩
              show Ml' f < mm_N ρ + 1
              omega
          · by_cases w : f = k
            · by_cases w' : g = k
              · rw [w, w']
              · rw [w, u1_s, u1_n _ _ w'] at e
                have := (z2 g hg).2.2.2.2
                omega
            · by_cases w' : g = k
              · rw [w', u1_s, u1_n _ _ w] at e
                have := (z2 f hf).2.2.2.2
                omega
              · rw [u1_n _ _ w, u1_n _ _ w'] at e
                exact z3 f g hf hg e
          · rw [oI' _ (by omega)]; exact z4
          · rw [oI' _ z1.2.2.2.2.2.2.2.2.1]; exact (z5 y).2 j hj
          · have hne : f ≠ k := fun w => by rw [w, nf] at hf; cases hf
            obtain ⟨y1, y2, y3⟩ := z6 f hf
            rw [u1_n _ _ hne, u1_n _ _ hne]
            exact ⟨y1, y2, fun j hj => by rw [oL _ (z2 f (h12 f hf)).2.2.2.2]; exact y3 j hj⟩
          · show X + 135 ≤ mm_N ρ + 1
            omega
          · show mm_N ρ + 1 ≤ _
            omega
          · show mm_Z (mn_C ρ 21 (rmf (Ln' k) (EN s.1).length)) ≤ _
            rw [cN_Z (by decide)]
            omega
          · rw [oI' _ (by omega)]; exact q1.2.2.1 j h1 h2
          · rw [oI' _ (by omega)]; exact q1.2.2.2
        · by_cases w : f = k
          · rw [w, u1_s]; exact r1
          · rw [u1_n _ _ w]; exact q2 f (by omega) hbf
        · show mm_I (mn_C ρ 21 (rmf (Ln' k) (EN s.1).length)) Ft = _
          rw [cN_I, if_neg (by have := q1.2.1.1.2.2.2.2.2.2.2.2.2; omega)]
          exact q3
  · rintro st ⟨ρ, Ml', Ln', rfl, q1, q2, q3⟩
    exact ⟨ρ, by simp only [f_X1_findComings_L35]; rw [if_pos (show (12 : Int32) ≤ nI 12 from nI_le (Nat.le_refl 12) (by decide))], Ml', Ln', q1, q2, q3⟩
end CEN
