/-! ===== a town's text: the model's clauses, second part ===== -/
section MCL
variable {X n x : Nat} {B : Nat → Nat} {s : Drf} {μ ν ρ : Mm}
variable {D : Tn} {a b d e f g : Nat}
theorem a8 (m : Nat) : (8 : Int32) + nI m = nI (8 + m) := nI_add 8 m
theorem a12 (m : Nat) : (12 : Int32) + nI m = nI (12 + m) := nI_add 12 m
theorem rdN_c (h : tk n B x = 1) : rdN n B s x = match nmd s (tW n B x) with
  | some p => .inr p
  | none => .inl (5, tP n B x) := if_pos h
theorem rdN_n (h : tk n B x ≠ 1) : rdN n B s x = .inl (1, tP n B x) := if_neg h
theorem m_tal (h : MS X n B s x μ) : MOut X n B μ (f_X11_readTalk (X + 90) μ) (if s.1 0 2 = 8 then .inl (4, tP n B x) else sTal n B s (tN n B x)) := by
  obtain ⟨hM, ok, hD⟩ := h
  have h1 := hM.1.1
  have o := ok.1
  unfold f_X11_readTalk
  rw [if_pos (by rw [mk_90 h1]), rp_90_12 h1, ob, show ga_I (X + 92) 13 μ = _ from mr1 (j := 2) (by decide) h1 hD.1, ob]
  by_cases e0 : s.1 0 2 = 8
  · rw [if_pos e0, if_pos (show nI (s.1 0 2) = 8 by rw [e0]; rfl)]
    exact MOut_b (m_flo (v := 4) hM)
  · rw [if_neg e0, if_neg (by rw [show (8 : Int32) = nI 8 from rfl, nI_eq_i (by omega) (by omega)]; exact e0)]
    obtain ⟨ν, a1, a2, a3⟩ := m_scn hM
    have hD1 := MDr_s a2 hD
    have g1 := a3.1.1
    have b0 : bhd s.1 7 (8 + s.1 0 2) := by unfold bhd; omega
    have b1 : bhd s.1 8 (8 + s.1 0 2) := by unfold bhd; omega
    have b2 : bhd s.1 9 (8 + s.1 0 2) := by unfold bhd; omega
    rw [a1, ob, rp_90_17 g1, ob, a8]
    unfold sTal
    obtain ⟨A1, A2⟩ := m_who (r := 7) (k := 8 + s.1 0 2) (L := 16) a3 ok hD1 (bhd_h b0) (mk_97 g1) (by decide) (by omega)
    cases ea : rdN n B s (tN n B x) with
    | inl e =>
      obtain ⟨π, p1, p2, p3⟩ := A1 e ea
      rw [show f_X11_readWho (X + 90) (X + 97) (nI (8 + s.1 0 2)) ν = _ from p1, ob, if_pos rfl]
      exact MOl rfl (FrM_t (FrM_s a2) p2) p3
    | inr a =>
      obtain ⟨ν2, c1, c2, c3⟩ := A2 a ea
      have ha := (rdN_r ea).2.2
      have hD2 := MDr_W b0 c2 hD1
      have g2 := c3.1.1
      have ca := FrW_c c2
      have fr2 : FrM X μ ν2 := FrM_t (FrM_s a2) (FrM_W (bhd_h b0) c2)
      rw [show f_X11_readWho (X + 90) (X + 97) (nI (8 + s.1 0 2)) ν = _ from c1, ob, if_neg one_ne, rf_90 g2, ob, c3.2.1.1]
      show MOut X n B μ _ (eb (rdN n B s (tN n B (tN n B x))) _)
      by_cases e1 : tk n B (tN n B (tN n B x)) = 1
      · rw [if_pos (by rw [kRa tk_le]; exact e1), m_nmd g2 ok hD2 (c3.2.1.2.2.2.2.1 e1), ob, rp_90_17 g2, ob, e_gaI (mk_97 g2) (by omega) (by decide), ob, show mm_I ν2 (X + 97) (8 + s.1 0 2) = nI a from ca]
        obtain ⟨B1, B2⟩ := m_who (r := 8) (k := 8 + s.1 0 2) (L := 16) c3 ok hD2 (bhd_h b1) (mk_98 g2) (by decide) (by omega)
        cases e2 : nmd s (tW n B (tN n B (tN n B x))) with
        | none =>
          have eb' : rdN n B s (tN n B (tN n B x)) = .inl (5, tP n B (tN n B (tN n B x))) := by rw [rdN_c e1, e2]
          obtain ⟨π, p1, p2, p3⟩ := B1 _ eb'
          rw [if_neg (show ¬ oI none = nI a from fun z => neg1_ne (q := a) (by omega) z.symm), rp_90_18 g2, ob, show f_X11_readWho (X + 90) (X + 98) (nI (8 + s.1 0 2)) ν2 = _ from p1, ob, if_pos rfl, eb']
          exact MOl rfl (FrM_t fr2 p2) p3
        | some b =>
          have eb' : rdN n B s (tN n B (tN n B x)) = .inr b := by rw [rdN_c e1, e2]
          have hb := (rdN_r eb').2.2
          rw [eb']
          show MOut X n B μ _ (if b = a then _ else _)
          by_cases e3 : b = a
          · rw [if_pos e3, if_pos (show oI (some b) = nI a by rw [e3]; rfl)]
            exact MOut_t fr2 (MOut_b (m_flo (v := 3) c3))
          · obtain ⟨ν3, d1, d2, d3⟩ := B2 b eb'
            have hD3 := MDr_W b1 d2 hD2
            have g3 := d3.1.1
            have cb := FrW_c d2
            have fr3 : FrM X μ ν3 := FrM_t fr2 (FrM_W (bhd_h b1) d2)
            have ca3 : mm_I ν3 (X + 97) (8 + s.1 0 2) = nI a := by rw [d2.2.2.2.1 _ (by omega) (by omega)]; exact ca
            rw [if_neg e3, if_neg (show ¬ oI (some b) = nI a from fun z => e3 (by have z : nI b = nI a := z; rw [nI_eq_i (by omega) (by omega)] at z; exact z)), rp_90_18 g2, ob, show f_X11_readWho (X + 90) (X + 98) (nI (8 + s.1 0 2)) ν2 = _ from d1, ob, if_neg one_ne, rp_90_19 g3, ob]
            obtain ⟨C1, C2⟩ := m_int (lo := 1) (hi := 28) (r := 9) (k := 8 + s.1 0 2) (L := 16) d3 (by decide) (by decide) (bhd_h b2) (mk_99 g3) (by decide) (by omega)
            cases ec : rdB n B 1 28 (tN n B (tN n B (tN n B x))) with
            | inl e =>
              obtain ⟨π, p1, p2, p3⟩ := C1 e ec
              rw [show f_X11_readInto (X + 90) (X + 99) (nI (8 + s.1 0 2)) 1 28 ν3 = _ from p1, ob, if_pos rfl]
              exact MOl rfl (FrM_t fr3 p2) p3
            | inr v =>
              obtain ⟨ν4, q1, q2, q3⟩ := C2 v ec
              have hv := rdB_r ec
              have hD4 := MDr_W b2 q2 hD3
              have g4 := q3.1.1
              have fr4 : FrM X μ ν4 := FrM_t fr3 (FrM_W (bhd_h b2) q2)
              rw [show f_X11_readInto (X + 90) (X + 99) (nI (8 + s.1 0 2)) 1 28 ν3 = _ from q1, ob, if_neg one_ne, rp_90_12 g4, ob, show ga_I (X + 92) 13 ν4 = _ from mr1 (j := 2) (by decide) g4 hD4.1, ob, nI_1, show pa_I (X + 92) 13 _ ν4 = _ from wa_92 (i := 13) g4 _ (by decide), ob]
              obtain ⟨k1, k2⟩ := MS_n (j := 13) (by decide) (by decide) ⟨q3, ok, hD4⟩ (ok_tal ok (by omega) ha hb e3 hv.2.2) (mtn_tal hD4.1 (by rw [q2.2.2.2.1 _ (by omega) (by omega)]; exact ca3) (by rw [q2.2.2.2.1 _ (by omega) (by omega)]; exact cb) (FrW_c q2)) rfl
              exact MOr rfl (FrM_t fr4 k2) k1
      · rw [if_neg (by rw [kRa tk_le]; exact e1), rdN_n e1]
        exact MOut_t fr2 (MOut_b (m_flo (v := 1) c3))
theorem m_fac (h : MS X n B s x μ) : MOut X n B μ (f_X11_readByPerson (X + 90) 2 μ) (if s.1 0 1 = 12 then .inl (4, tP n B x) else sFac n B s (tN n B x)) := by
  obtain ⟨hM, ok, hD⟩ := h
  have h1 := hM.1.1
  have o := ok.1
  unfold f_X11_readByPerson f_X11_readByPerson_J20 f_X11_readByPerson_J43
  rw [if_pos (by rw [mk_90 h1]), if_pos rfl, if_pos rfl, rp_90_12 h1, ob, show ga_I (X + 92) (11 + 1) μ = _ from mr1 (j := 1) (by decide) h1 hD.1, ob]
  by_cases e0 : s.1 0 1 = 12
  · rw [if_pos e0, if_pos (show nI (s.1 0 1) = 12 by rw [e0]; rfl)]
    exact MOut_b (m_flo (v := 4) hM)
  · rw [if_neg e0, if_neg (by rw [show (12 : Int32) = nI 12 from rfl, nI_eq_i (by omega) (by omega)]; exact e0)]
    obtain ⟨ν, a1, a2, a3⟩ := m_scn hM
    have hD1 := MDr_s a2 hD
    have g1 := a3.1.1
    have b0 : bhd s.1 5 (12 + s.1 0 1) := by unfold bhd; omega
    have b1 : bhd s.1 6 (12 + s.1 0 1) := by unfold bhd; omega
    rw [a1, ob, if_pos rfl, rp_90_15 g1, ob, a12]
    unfold sFac f_X11_readByPerson_J115 f_X11_readByPerson_J116 f_X11_readByPerson_J241
    obtain ⟨A1, A2⟩ := m_who (r := 5) (k := 12 + s.1 0 1) (L := 24) a3 ok hD1 (bhd_h b0) (mk_95 g1) (by decide) (by omega)
    cases ea : rdN n B s (tN n B x) with
    | inl e =>
      obtain ⟨π, p1, p2, p3⟩ := A1 e ea
      rw [show f_X11_readWho (X + 90) (X + 95) (nI (12 + s.1 0 1)) ν = _ from p1, ob, if_pos rfl]
      rw [if_pos rfl, if_pos (Or.inl rfl)]
      exact MOl rfl (FrM_t (FrM_s a2) p2) p3
    | inr a =>
      obtain ⟨ν2, c1, c2, c3⟩ := A2 a ea
      have ha := (rdN_r ea).2.2
      have hD2 := MDr_W b0 c2 hD1
      have g2 := c3.1.1
      have ca := FrW_c c2
      have fr2 : FrM X μ ν2 := FrM_t (FrM_s a2) (FrM_W (bhd_h b0) c2)
      rw [show f_X11_readWho (X + 90) (X + 95) (nI (12 + s.1 0 1)) ν = _ from c1, ob, if_neg one_ne, rp_90_16 g2, ob]
      obtain ⟨C1, C2⟩ := m_int (lo := 0) (hi := 27) (r := 6) (k := 12 + s.1 0 1) (L := 24) c3 (by decide) (by decide) (bhd_h b1) (mk_96 g2) (by decide) (by omega)
      show MOut X n B μ _ (eb (rdB n B 0 27 (tN n B (tN n B x))) _)
      cases ec : rdB n B 0 27 (tN n B (tN n B x)) with
      | inl e =>
        obtain ⟨π, p1, p2, p3⟩ := C1 e ec
        rw [show f_X11_readInto (X + 90) (X + 96) (nI (12 + s.1 0 1)) 0 27 ν2 = _ from p1, ob, if_pos rfl]
        rw [if_pos rfl, if_pos (Or.inl rfl)]
        exact MOl rfl (FrM_t fr2 p2) p3
      | inr v =>
        obtain ⟨ν4, q1, q2, q3⟩ := C2 v ec
        have hv := rdB_r ec
        have hD4 := MDr_W b1 q2 hD2
        have g4 := q3.1.1
        have fr4 : FrM X μ ν4 := FrM_t fr2 (FrM_W (bhd_h b1) q2)
        rw [show f_X11_readInto (X + 90) (X + 96) (nI (12 + s.1 0 1)) 0 27 ν2 = _ from q1, ob, if_neg one_ne, if_neg (by decide), rp_90_12 g4, ob, show ga_I (X + 92) (11 + 1) ν4 = _ from mr1 (j := 1) (by decide) g4 hD4.1, ob, nI_1, show pa_I (X + 92) (11 + 1) _ ν4 = _ from wa_92 (i := 12) g4 _ (by decide), ob, if_pos (Or.inr rfl)]
        obtain ⟨k1, k2⟩ := MS_n (j := 12) (by decide) (by decide) ⟨q3, ok, hD4⟩ (ok_fac (d := v) ok (by omega) ha (by omega)) (mtn_fac hD4.1 (by rw [q2.2.2.2.1 _ (by omega) (by omega)]; exact ca) (FrW_c q2)) rfl
        exact MOr rfl (FrM_t fr4 k2) k1
theorem m_nap (h : MS X n B s x μ) : MOut X n B μ (f_X11_readByPerson (X + 90) 4 μ) (if s.1 0 3 = 8 then .inl (4, tP n B x) else sNap n B s (tN n B x)) := by
  obtain ⟨hM, ok, hD⟩ := h
  have h1 := hM.1.1
  have o := ok.1
  unfold f_X11_readByPerson f_X11_readByPerson_J20 f_X11_readByPerson_J43
  rw [if_pos (by rw [mk_90 h1]), if_neg (by decide), if_pos rfl, if_neg (by decide), if_pos rfl, rp_90_12 h1, ob, show ga_I (X + 92) (11 + 3) μ = _ from mr1 (j := 3) (by decide) h1 hD.1, ob]
  by_cases e0 : s.1 0 3 = 8
  · rw [if_pos e0, if_pos (show nI (s.1 0 3) = 8 by rw [e0]; rfl)]
    exact MOut_b (m_flo (v := 4) hM)
  · rw [if_neg e0, if_neg (by rw [show (8 : Int32) = nI 8 from rfl, nI_eq_i (by omega) (by omega)]; exact e0)]
    obtain ⟨ν, a1, a2, a3⟩ := m_scn hM
    have hD1 := MDr_s a2 hD
    have g1 := a3.1.1
    have b0 : bhd s.1 10 (8 + s.1 0 3) := by unfold bhd; omega
    have b1 : bhd s.1 11 (8 + s.1 0 3) := by unfold bhd; omega
    rw [a1, ob, if_neg (by decide), if_pos rfl, rp_90_20 g1, ob, a8]
    unfold sNap f_X11_readByPerson_J165 f_X11_readByPerson_J166 f_X11_readByPerson_J241
    obtain ⟨A1, A2⟩ := m_who (r := 10) (k := 8 + s.1 0 3) (L := 16) a3 ok hD1 (bhd_h b0) (mk_100 g1) (by decide) (by omega)
    cases ea : rdN n B s (tN n B x) with
    | inl e =>
      obtain ⟨π, p1, p2, p3⟩ := A1 e ea
      rw [show f_X11_readWho (X + 90) (X + 100) (nI (8 + s.1 0 3)) ν = _ from p1, ob, if_pos rfl]
      rw [if_pos rfl, if_pos (Or.inl rfl)]
      exact MOl rfl (FrM_t (FrM_s a2) p2) p3
    | inr a =>
      obtain ⟨ν2, c1, c2, c3⟩ := A2 a ea
      have ha := (rdN_r ea).2.2
      have hD2 := MDr_W b0 c2 hD1
      have g2 := c3.1.1
      have ca := FrW_c c2
      have fr2 : FrM X μ ν2 := FrM_t (FrM_s a2) (FrM_W (bhd_h b0) c2)
      rw [show f_X11_readWho (X + 90) (X + 100) (nI (8 + s.1 0 3)) ν = _ from c1, ob, if_neg one_ne, rp_90_21 g2, ob]
      obtain ⟨C1, C2⟩ := m_int (lo := 0) (hi := 27) (r := 11) (k := 8 + s.1 0 3) (L := 16) c3 (by decide) (by decide) (bhd_h b1) (mk_101 g2) (by decide) (by omega)
      show MOut X n B μ _ (eb (rdB n B 0 27 (tN n B (tN n B x))) _)
      cases ec : rdB n B 0 27 (tN n B (tN n B x)) with
      | inl e =>
        obtain ⟨π, p1, p2, p3⟩ := C1 e ec
        rw [show f_X11_readInto (X + 90) (X + 101) (nI (8 + s.1 0 3)) 0 27 ν2 = _ from p1, ob, if_pos rfl]
        rw [if_pos rfl, if_pos (Or.inl rfl)]
        exact MOl rfl (FrM_t fr2 p2) p3
      | inr v =>
        obtain ⟨ν4, q1, q2, q3⟩ := C2 v ec
        have hv := rdB_r ec
        have hD4 := MDr_W b1 q2 hD2
        have g4 := q3.1.1
        have fr4 : FrM X μ ν4 := FrM_t fr2 (FrM_W (bhd_h b1) q2)
        rw [show f_X11_readInto (X + 90) (X + 101) (nI (8 + s.1 0 3)) 0 27 ν2 = _ from q1, ob, if_neg one_ne, if_neg (by decide), rp_90_12 g4, ob, show ga_I (X + 92) (11 + 3) ν4 = _ from mr1 (j := 3) (by decide) g4 hD4.1, ob, nI_1, show pa_I (X + 92) (11 + 3) _ ν4 = _ from wa_92 (i := 14) g4 _ (by decide), ob, if_pos (Or.inr rfl)]
        obtain ⟨k1, k2⟩ := MS_n (j := 14) (by decide) (by decide) ⟨q3, ok, hD4⟩ (ok_nap (d := v) ok (by omega) ha (by omega)) (mtn_nap hD4.1 (by rw [q2.2.2.2.1 _ (by omega) (by omega)]; exact ca) (FrW_c q2)) rfl
        exact MOr rfl (FrM_t fr4 k2) k1
theorem m_dul (h : MS X n B s x μ) : MOut X n B μ (f_X11_readByPerson (X + 90) 5 μ) (if s.1 0 6 = 8 then .inl (4, tP n B x) else sDul n B s (tN n B x)) := by
  obtain ⟨hM, ok, hD⟩ := h
  have h1 := hM.1.1
  have o := ok.1
  unfold f_X11_readByPerson f_X11_readByPerson_J20 f_X11_readByPerson_J43
  rw [if_pos (by rw [mk_90 h1]), if_neg (by decide), if_neg (by decide), if_neg (by decide), if_neg (by decide), rp_90_12 h1, ob, show ga_I (X + 92) (11 + 6) μ = _ from mr1 (j := 6) (by decide) h1 hD.1, ob]
  by_cases e0 : s.1 0 6 = 8
  · rw [if_pos e0, if_pos (show nI (s.1 0 6) = 8 by rw [e0]; rfl)]
    exact MOut_b (m_flo (v := 4) hM)
  · rw [if_neg e0, if_neg (by rw [show (8 : Int32) = nI 8 from rfl, nI_eq_i (by omega) (by omega)]; exact e0)]
    obtain ⟨ν, a1, a2, a3⟩ := m_scn hM
    have hD1 := MDr_s a2 hD
    have g1 := a3.1.1
    have b0 : bhd s.1 12 (8 + s.1 0 6) := by unfold bhd; omega
    have b1 : bhd s.1 13 (8 + s.1 0 6) := by unfold bhd; omega
    have b2 : bhd s.1 14 (8 + s.1 0 6) := by unfold bhd; omega
    rw [a1, ob, if_neg (by decide), if_neg (by decide), rp_90_22 g1, ob, a8]
    unfold sDul f_X11_readByPerson_J238 f_X11_readByPerson_J239 f_X11_readByPerson_J241
    obtain ⟨A1, A2⟩ := m_who (r := 12) (k := 8 + s.1 0 6) (L := 16) a3 ok hD1 (bhd_h b0) (mk_102 g1) (by decide) (by omega)
    cases ea : rdN n B s (tN n B x) with
    | inl e =>
      obtain ⟨π, p1, p2, p3⟩ := A1 e ea
      rw [show f_X11_readWho (X + 90) (X + 102) (nI (8 + s.1 0 6)) ν = _ from p1, ob, if_pos rfl]
      rw [if_pos rfl, if_pos (Or.inl rfl)]
      exact MOl rfl (FrM_t (FrM_s a2) p2) p3
    | inr a =>
      obtain ⟨ν2, c1, c2, c3⟩ := A2 a ea
      have ha := (rdN_r ea).2.2
      have hD2 := MDr_W b0 c2 hD1
      have g2 := c3.1.1
      have ca := FrW_c c2
      have fr2 : FrM X μ ν2 := FrM_t (FrM_s a2) (FrM_W (bhd_h b0) c2)
      rw [show f_X11_readWho (X + 90) (X + 102) (nI (8 + s.1 0 6)) ν = _ from c1, ob, if_neg one_ne, rp_90_23 g2, ob]
      obtain ⟨C1, C2⟩ := m_int (lo := 0) (hi := 27) (r := 13) (k := 8 + s.1 0 6) (L := 16) c3 (by decide) (by decide) (bhd_h b1) (mk_103 g2) (by decide) (by omega)
      show MOut X n B μ _ (eb (rdB n B 0 27 (tN n B (tN n B x))) _)
      cases ec : rdB n B 0 27 (tN n B (tN n B x)) with
      | inl e =>
        obtain ⟨π, p1, p2, p3⟩ := C1 e ec
        rw [show f_X11_readInto (X + 90) (X + 103) (nI (8 + s.1 0 6)) 0 27 ν2 = _ from p1, ob, if_pos rfl]
        rw [if_pos rfl, if_pos (Or.inl rfl)]
        exact MOl rfl (FrM_t fr2 p2) p3
      | inr v =>
        obtain ⟨ν3, d1, d2, d3⟩ := C2 v ec
        have hv := rdB_r ec
        have hD3 := MDr_W b1 d2 hD2
        have g3 := d3.1.1
        have cb := FrW_c d2
        have fr3 : FrM X μ ν3 := FrM_t fr2 (FrM_W (bhd_h b1) d2)
        have ca3 : mm_I ν3 (X + 102) (8 + s.1 0 6) = nI a := by rw [d2.2.2.2.1 _ (by omega) (by omega)]; exact ca
        rw [show f_X11_readInto (X + 90) (X + 103) (nI (8 + s.1 0 6)) 0 27 ν2 = _ from d1, ob, if_neg one_ne, rp_90_24 g3, ob, rp_90_23 g3, ob, e_gaI (mk_103 g3) (by omega) (by decide), ob, show mm_I ν3 (X + 103) (8 + s.1 0 6) = nI v from cb]
        obtain ⟨E1, E2⟩ := m_int (lo := v) (hi := 27) (r := 14) (k := 8 + s.1 0 6) (L := 16) d3 (by omega) (by decide) (bhd_h b2) (mk_104 g3) (by decide) (by omega)
        show MOut X n B μ _ (eb (rdB n B v 27 (tN n B (tN n B (tN n B x)))) _)
        cases ed : rdB n B v 27 (tN n B (tN n B (tN n B x))) with
        | inl e =>
          obtain ⟨π, p1, p2, p3⟩ := E1 e ed
          rw [show f_X11_readInto (X + 90) (X + 104) (nI (8 + s.1 0 6)) (nI v) 27 ν3 = _ from p1, ob, if_pos rfl]
          rw [if_pos rfl, if_pos (Or.inl rfl)]
          exact MOl rfl (FrM_t fr3 p2) p3
        | inr w =>
          obtain ⟨ν4, q1, q2, q3⟩ := E2 w ed
          have hw := rdB_r ed
          have hD4 := MDr_W b2 q2 hD3
          have g4 := q3.1.1
          have fr4 : FrM X μ ν4 := FrM_t fr3 (FrM_W (bhd_h b2) q2)
          rw [show f_X11_readInto (X + 90) (X + 104) (nI (8 + s.1 0 6)) (nI v) 27 ν3 = _ from q1, ob, if_neg one_ne, if_neg (by decide), rp_90_12 g4, ob, show ga_I (X + 92) (11 + 6) ν4 = _ from mr1 (j := 6) (by decide) g4 hD4.1, ob, nI_1, show pa_I (X + 92) (11 + 6) _ ν4 = _ from wa_92 (i := 17) g4 _ (by decide), ob, if_pos (Or.inr rfl)]
          obtain ⟨k1, k2⟩ := MS_n (j := 17) (by decide) (by decide) ⟨q3, ok, hD4⟩ (ok_dul (d := v) (e := w) ok (by omega) ha hw.2.2.1 (by omega)) (mtn_dul hD4.1 (by rw [q2.2.2.2.1 _ (by omega) (by omega)]; exact ca3) (by rw [q2.2.2.2.1 _ (by omega) (by omega)]; exact cb) (FrW_c q2)) rfl
          exact MOr rfl (FrM_t fr4 k2) k1
end MCL
