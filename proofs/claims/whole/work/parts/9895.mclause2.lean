/-! ===== a town's text: the model's clauses, third part ===== -/
section MCL
variable {X n x : Nat} {B : Nat → Nat} {s : Drf} {μ ν ρ : Mm}
variable {D : Tn} {a b d e f g : Nat}
theorem FrW_I {r k : Nat} {v : Int32} (hr : 1 ≤ r) : FrW X (X + 90 + r) k v μ (ms_I μ (X + 90 + r) k v) := ⟨rfl, rfl, by rw [iI, if_pos rfl], fun q _ h => by rw [iI, if_neg h], fun _ _ => rfl, fun j _ => by rw [rI, if_neg (by omega)], fun _ _ => rfl⟩
theorem m_wis {g : Nat} (hg : g ≤ 1) (h : MS X n B s x μ) : MOut X n B μ (f_X11_readWish (X + 90) (nI (9 + g)) μ) (if s.1 0 9 = 8 then .inl (4, tP n B x) else sWis n B g s (tN n B x)) := by
  obtain ⟨hM, ok, hD⟩ := h
  have h1 := hM.1.1
  have o := ok.1
  unfold f_X11_readWish
  rw [if_pos (by rw [mk_90 h1]), rp_90_12 h1, ob, show ga_I (X + 92) 20 μ = _ from mr1 (j := 9) (by decide) h1 hD.1, ob]
  by_cases e0 : s.1 0 9 = 8
  · rw [if_pos e0, if_pos (show nI (s.1 0 9) = 8 by rw [e0]; rfl)]
    exact MOut_b (m_flo (v := 4) hM)
  · rw [if_neg e0, if_neg (by rw [show (8 : Int32) = nI 8 from rfl, nI_eq_i (by omega) (by omega)]; exact e0)]
    obtain ⟨ν, a1, a2, a3⟩ := m_scn hM
    have hD1 := MDr_s a2 hD
    have g1 := a3.1.1
    have b0 : bhd s.1 15 (8 + s.1 0 9) := by unfold bhd; omega
    have b1 : bhd s.1 16 (8 + s.1 0 9) := by unfold bhd; omega
    have b2 : bhd s.1 17 (8 + s.1 0 9) := by unfold bhd; omega
    have b3 : bhd s.1 18 (8 + s.1 0 9) := by unfold bhd; omega
    rw [a1, ob, rp_90_25 g1, ob, a8]
    unfold sWis
    obtain ⟨A1, A2⟩ := m_who (r := 15) (k := 8 + s.1 0 9) (L := 16) a3 ok hD1 (bhd_h b0) (mk_105 g1) (by decide) (by omega)
    cases ea : rdN n B s (tN n B x) with
    | inl e =>
      obtain ⟨π, p1, p2, p3⟩ := A1 e ea
      rw [show f_X11_readWho (X + 90) (X + 105) (nI (8 + s.1 0 9)) ν = _ from p1, ob, if_pos rfl]
      exact MOl rfl (FrM_t (FrM_s a2) p2) p3
    | inr a =>
      obtain ⟨ν2, c1, c2, c3⟩ := A2 a ea
      have ha := (rdN_r ea).2.2
      have hD2 := MDr_W b0 c2 hD1
      have g2 := c3.1.1
      have ca := FrW_c c2
      have fr2 : FrM X μ ν2 := FrM_t (FrM_s a2) (FrM_W (bhd_h b0) c2)
      rw [show f_X11_readWho (X + 90) (X + 105) (nI (8 + s.1 0 9)) ν = _ from c1, ob, if_neg one_ne, rp_90_26 g2, ob]
      obtain ⟨C1, C2⟩ := m_int (lo := 0) (hi := 11) (r := 16) (k := 8 + s.1 0 9) (L := 16) c3 (by decide) (by decide) (bhd_h b1) (mk_106 g2) (by decide) (by omega)
      show MOut X n B μ _ (eb (rdB n B 0 11 (tN n B (tN n B x))) _)
      cases ec : rdB n B 0 11 (tN n B (tN n B x)) with
      | inl e =>
        obtain ⟨π, p1, p2, p3⟩ := C1 e ec
        rw [show f_X11_readInto (X + 90) (X + 106) (nI (8 + s.1 0 9)) 0 11 ν2 = _ from p1, ob, if_pos rfl]
        exact MOl rfl (FrM_t fr2 p2) p3
      | inr v =>
        obtain ⟨ν3, d1, d2, d3⟩ := C2 v ec
        have hv := rdB_r ec
        have hD3 := MDr_W b1 d2 hD2
        have g3 := d3.1.1
        have cb := FrW_c d2
        have fr3 : FrM X μ ν3 := FrM_t fr2 (FrM_W (bhd_h b1) d2)
        have ca3 : mm_I ν3 (X + 105) (8 + s.1 0 9) = nI a := by rw [d2.2.2.2.1 _ (by omega) (by omega)]; exact ca
        rw [show f_X11_readInto (X + 90) (X + 106) (nI (8 + s.1 0 9)) 0 11 ν2 = _ from d1, ob, if_neg one_ne, rp_90_27 g3, ob]
        obtain ⟨E1, E2⟩ := m_int (lo := 0) (hi := 27) (r := 17) (k := 8 + s.1 0 9) (L := 16) d3 (by omega) (by decide) (bhd_h b2) (mk_107 g3) (by decide) (by omega)
        show MOut X n B μ _ (eb (rdB n B 0 27 (tN n B (tN n B (tN n B x)))) _)
        cases ed : rdB n B 0 27 (tN n B (tN n B (tN n B x))) with
        | inl e =>
          obtain ⟨π, p1, p2, p3⟩ := E1 e ed
          rw [show f_X11_readInto (X + 90) (X + 107) (nI (8 + s.1 0 9)) 0 27 ν3 = _ from p1, ob, if_pos rfl]
          exact MOl rfl (FrM_t fr3 p2) p3
        | inr w =>
          obtain ⟨ν4, q1, q2, q3⟩ := E2 w ed
          have hw := rdB_r ed
          have hD4 := MDr_W b2 q2 hD3
          have g4 := q3.1.1
          have cw' := FrW_c q2
          have fr4 : FrM X μ ν4 := FrM_t fr3 (FrM_W (bhd_h b2) q2)
          have ca4 : mm_I ν4 (X + 105) (8 + s.1 0 9) = nI a := by rw [q2.2.2.2.1 _ (by omega) (by omega)]; exact ca3
          have cb4 : mm_I ν4 (X + 106) (8 + s.1 0 9) = nI v := by rw [q2.2.2.2.1 _ (by omega) (by omega)]; exact cb
          rw [show f_X11_readInto (X + 90) (X + 107) (nI (8 + s.1 0 9)) 0 27 ν3 = _ from q1, ob, if_neg one_ne, rp_90_28 g4, ob]
          have fw : FrW X (X + 90 + 18) (8 + s.1 0 9) (nI g) ν4 (ms_I ν4 (X + 90 + 18) (8 + s.1 0 9) (nI g)) := FrW_I (by decide)
          have hM5 : MT X n B (tN n B (tN n B (tN n B (tN n B x)))) (ms_I ν4 (X + 90 + 18) (8 + s.1 0 9) (nI g)) := MT_w (FrM_W (bhd_h b3) fw) (by rw [iI, if_neg (by omega)]) rfl q3
          have hD5 := MDr_W b3 fw hD4
          have g5 := hM5.1.1
          have j96 : f_X11_readWish_J96 (X + 90) (X + 108) (nI (8 + s.1 0 9)) (nI g) ν4 = some (1, ms_I (ms_I ν4 (X + 90 + 18) (8 + s.1 0 9) (nI g)) (X + 92) 20 (nI (s.1 0 9 + 1))) := by
            unfold f_X11_readWish_J96
            rw [e_paI (mk_108 g4) (by omega) (by decide), ob, rp_90_12 g5, ob, show ga_I (X + 92) 20 _ = _ from mr1 (j := 9) (by decide) g5 hD5.1, ob, nI_1, show pa_I (X + 92) 20 _ _ = _ from wa_92 (i := 20) g5 _ (by decide), ob]
          have br : (if nI (9 + g) = (10 : Int32) then f_X11_readWish_J96 (X + 90) (X + 108) (nI (8 + s.1 0 9)) 1 ν4 else f_X11_readWish_J96 (X + 90) (X + 108) (nI (8 + s.1 0 9)) 0 ν4) = f_X11_readWish_J96 (X + 90) (X + 108) (nI (8 + s.1 0 9)) (nI g) ν4 := by
            have : g = 0 ∨ g = 1 := by omega
            rcases this with z | z <;> subst z
            · rw [if_neg (by decide)]; rfl
            · rw [if_pos (by decide)]; rfl
          rw [br, j96]
          obtain ⟨k1, k2⟩ := MS_n (j := 20) (by decide) (by decide) ⟨hM5, ok, hD5⟩ (ok_wis (f := v) (d := w) ok (by omega) ha (by omega) (by omega) hg) (mtn_wis hD5.1 (by rw [fw.2.2.2.1 _ (by omega) (by omega)]; exact ca4) (by rw [fw.2.2.2.1 _ (by omega) (by omega)]; exact cb4) (by rw [fw.2.2.2.1 _ (by omega) (by omega)]; exact cw') (FrW_c fw)) rfl
          exact MOr rfl (FrM_t fr4 (FrM_t (FrM_W (bhd_h b3) fw) k2)) k1
theorem m_tra (h : MS X n B s x μ) : MOut X n B μ (f_X11_readTrade (X + 90) μ) (sTra n B s (tN n B x)) := by
  obtain ⟨hM, ok, hD⟩ := h
  have h1 := hM.1.1
  have o := ok.1
  have t10 : s.1 0 10 < 256 := o.2.2.2.2.2.2.2.2.2.2.2.1
  obtain ⟨ν, a1, a2, a3⟩ := m_scn hM
  have hD1 := MDr_s a2 hD
  have g1 := a3.1.1
  unfold f_X11_readTrade f_X11_readTrade_J49 sTra
  rw [if_pos (by rw [mk_90 h1]), a1, ob, rf_90 g1, ob, a3.2.1.1]
  by_cases e1 : tk n B (tN n B x) = 1
  · rw [if_pos (by rw [kRa tk_le]; exact e1), m_nmd g1 ok hD1 (a3.2.1.2.2.2.2.1 e1), ob]
    cases e2 : nmd s (tW n B (tN n B x)) with
    | none =>
      have ea : rdN n B s (tN n B x) = .inl (5, tP n B (tN n B x)) := by rw [rdN_c e1, e2]
      rw [ea, if_pos (show oI none = -1 from rfl), if_pos (show oI none = -1 from rfl)]
      exact MOut_t (FrM_s a2) (MOut_b (m_flo (v := 5) a3))
    | some a =>
      have ea : rdN n B s (tN n B x) = .inr a := by rw [rdN_c e1, e2]
      have ha := (rdN_r ea).2.2
      have na : ¬ oI (some a) = -1 := neg1_ne (by omega)
      rw [ea, if_neg na, if_neg na, show oI (some a) = nI a from rfl, rp_90_12 g1, ob, show ga_I (X + 92) 21 ν = _ from mr1 (j := 10) (by decide) g1 hD1.1, ob, b_bit (by omega) (by omega)]
      show MOut X n B μ _ (if (s.1 0 10).testBit a = true then _ else _)
      by_cases e3 : (s.1 0 10).testBit a = true
      · rw [if_pos e3, e3, if_pos (by rfl)]
        exact MOut_t (FrM_s a2) (MOut_b (m_flo (v := 3) a3))
      · have e3' : (s.1 0 10).testBit a = false := by simpa using e3
        rw [if_neg e3, e3', if_neg (by decide), ob, show ga_I (X + 92) 21 ν = _ from mr1 (j := 10) (by decide) g1 hD1.1, ob, b_one (by omega), nI_or, show pa_I (X + 92) 21 _ ν = _ from wa_92 (i := 21) g1 _ (by decide), ob]
        have ok' : OkT (up s.1 0 10 (s.1 0 10 ||| 2 ^ a)) := by
          obtain ⟨⟨a1, a2, a3, a4, a5, a6, a7, a8, a9, a10, a11, a12, a13⟩, h2⟩ := ok
          exact ⟨⟨a1, a2, a3, a4, a5, a6, a7, a8, a9, a10, a11, or_lt8 a12 (by omega), a13⟩, h2⟩
        obtain ⟨k1, k2⟩ := MS_n (j := 21) (by decide) (by decide) ⟨a3, ok, hD1⟩ ok' (mtn_n (j := 10) (by decide) (by decide) hD1.1) rfl
        generalize ms_I ν (X + 92) 21 (nI (s.1 0 10 ||| 2 ^ a)) = ν1 at k1 k2 ⊢
        obtain ⟨kM, -, kD⟩ := k1
        obtain ⟨ν2, c1, c2, c3⟩ := m_scn kM
        have hD2 := MDr_s c2 kD
        have g2 := c3.1.1
        have fr2 : FrM X μ ν2 := FrM_t (FrM_s a2) (FrM_t k2 (FrM_s c2))
        have hh : hlf 19 (8 + a) := by unfold hlf; omega
        rw [c1, ob, rp_90_29 g2, ob, a8]
        obtain ⟨C1, C2⟩ := m_int (lo := 0) (hi := 99) (r := 19) (k := 8 + a) (L := 16) c3 (by decide) (by decide) hh (mk_109 g2) (by decide) (by omega)
        cases ec : rdB n B 0 99 (tN n B (tN n B x)) with
        | inl e =>
          obtain ⟨π, p1, p2, p3⟩ := C1 e ec
          rw [show f_X11_readInto (X + 90) (X + 109) (nI (8 + a)) 0 99 ν2 = _ from p1, ob, if_pos (Or.inl rfl)]
          exact MOl rfl (FrM_t fr2 p2) p3
        | inr v =>
          obtain ⟨ν3, d1, d2, d3⟩ := C2 v ec
          have hv := rdB_r ec
          rw [show f_X11_readInto (X + 90) (X + 109) (nI (8 + a)) 0 99 ν2 = _ from d1, ob, if_pos (Or.inr rfl)]
          have eu : up (up s.1 16 a v) 0 10 (s.1 0 10 ||| 2 ^ a) = up (up s.1 0 10 (s.1 0 10 ||| 2 ^ a)) 16 a v := by
            funext r k
            unfold up
            by_cases z1 : r = 0 ∧ k = 10
            · rw [if_pos z1, if_neg (by omega), if_pos z1]
            · rw [if_neg z1]
              by_cases z2 : r = 16 ∧ k = a
              · rw [if_pos z2, if_pos z2]
              · rw [if_neg z2, if_neg z2, if_neg z1]
          have okf := ok_tra ok ha (show v < 100 by omega)
          refine MOr rfl (FrM_t fr2 (FrM_W hh d2)) ⟨d3, okf, ?_⟩
          obtain ⟨m1, m2, oo, m3, m4, m5⟩ := hD2
          refine ⟨?_, fun k hk => by rw [d2.2.2.2.2.1 _ (by omega)]; exact m2 k hk, oo, by rw [d2.2.2.2.2.2.1 31 (by omega)]; exact m3, m4, by rw [d2.2.2.2.2.2.1 8 (by omega), d2.2.2.2.2.2.1 9 (by omega)]; exact m5⟩
          dsimp only
          rw [eu]
          exact mtn_16 m1 d2.2.2.1 (fun q g1 g2 => d2.2.2.2.1 q (by omega) (by omega))
  · rw [if_neg (by rw [kRa tk_le]; exact e1), rdN_n e1]
    exact MOut_t (FrM_s a2) (MOut_b (m_flo (v := 1) a3))
theorem m_drd {q : Nat} (h : Sh X μ) (hm : MTn (X + 90) 1 D μ) (ok : OkT D) (hq : q < 8) : f_X11_isDreamtInDraft (X + 90) (nI q) μ = some (nI ((D 0 11).testBit q).toNat) := by
  rw [ok.2.2.2.1 q]
  unfold f_X11_isDreamtInDraft
  rw [if_pos (by rw [mk_90 h])]
  have hst : ∀ k, k < 8 → f_X11_isDreamtInDraft_L2 (X + 90) (nI q) μ (nI k) = if D 1 k = q + 1 then some (.inr (.inl ())) else some (.inl (nI (k + 1))) := by
    intro k hk
    have hb := (ok.2.1 k hk).1
    have hn := ok.1.1
    simp only [f_X11_isDreamtInDraft_L2]
    rw [if_neg (by rw [show (8 : Int32) = nI 8 from rfl, nI_le_i (by omega) (by omega)]; omega), rp_90_14 h, ob, mr1_94 h hm hk, ob, nI_1, ob, nI_1]
    by_cases e : D 1 k = q + 1
    · rw [if_pos (by rw [e]), if_pos e]
    · rw [if_neg (by rw [nI_eq_i (by omega) (by omega)]; exact e), if_neg e]
  refine (whl_fb 8 (fun k => nI k) (fun k => D 1 k == q + 1) (fun k => .inl ()) (b := .inr ()) rfl (fun k hk hq => ?_) (fun k hk hq => ?_) ?_).trans ?_
  · rw [hst k hk, if_neg (by simpa using hq)]
  · rw [hst k hk, if_pos (by simpa using hq)]
  · rfl
  · cases e3 : ff (fun k => D 1 k == q + 1) 8 with
    | none =>
      have : anyb (fun k => D 1 k == q + 1) 8 = false := anyb_f.mpr (ff_none.mp e3)
      rw [this]; rfl
    | some j =>
      obtain ⟨g1, g2, -⟩ := ff_some.mp e3
      have : anyb (fun k => D 1 k == q + 1) 8 = true := anyb_t.mpr ⟨j, g1, g2⟩
      rw [this]; rfl
theorem m_dre (h : MS X n B s x μ) : MOut X n B μ (f_X11_readDreams (X + 90) μ) (sDre n B s (tN n B x)) := by
  obtain ⟨hM, ok, hD⟩ := h
  have h1 := hM.1.1
  have o := ok.1
  have t7 : s.1 0 7 < 2 ^ 31 := Nat.lt_of_lt_of_le o.2.2.2.2.2.2.2.2.1 (Nat.pow_le_pow_right (by decide) (by omega))
  obtain ⟨ν, a1, a2, a3⟩ := m_scn hM
  have hD1 := MDr_s a2 hD
  have g1 := a3.1.1
  unfold f_X11_readDreams f_X11_readDreams_J46 f_X11_readDreams_J59 f_X11_readDreams_J106 f_X11_readDreams_J112 f_X11_readDreams_J125 sDre
  rw [if_pos (by rw [mk_90 h1]), a1, ob, rf_90 g1, ob, a3.2.1.1]
  by_cases e1 : tk n B (tN n B x) = 1
  · rw [if_pos (by rw [kRa tk_le]; exact e1), m_nmd g1 ok hD1 (a3.2.1.2.2.2.2.1 e1), ob]
    cases e2 : nmd s (tW n B (tN n B x)) with
    | none =>
      have ea : rdN n B s (tN n B x) = .inl (5, tP n B (tN n B x)) := by rw [rdN_c e1, e2]
      rw [ea, if_pos (show oI none = -1 from rfl), if_pos (show oI none = -1 from rfl)]
      exact MOut_t (FrM_s a2) (MOut_b (m_flo (v := 5) a3))
    | some a =>
      have ea : rdN n B s (tN n B x) = .inr a := by rw [rdN_c e1, e2]
      have ha := (rdN_r ea).2.2
      have na : ¬ oI (some a) = -1 := neg1_ne (by omega)
      have h1a := ok.2.1 a (by omega)
      rw [ea, if_neg na, if_neg na, show oI (some a) = nI a from rfl, rp_90_14 g1, ob, mr1_94 g1 hD1.1 (by omega), ob]
      show MOut X n B μ _ (if (s.1 0 7).testBit a = true then _ else if s.1 1 a = 0 then _ else _)
      by_cases e4 : s.1 1 a = 0
      · rw [if_pos (show nI (s.1 1 a) ≤ 0 by rw [e4]; decide), if_pos e4, e_aloneD g1 hD1.1 t7 (by omega), ob]
        by_cases e3 : (s.1 0 7).testBit a = true
        · rw [if_pos e3, e3, if_neg (by decide)]
          exact MOut_t (FrM_s a2) (MOut_b (m_flo (v := 5) a3))
        · have e3' : (s.1 0 7).testBit a = false := by simpa using e3
          rw [if_neg e3, e3', if_pos (by rfl)]
          obtain ⟨ν2, c1, c2, c3⟩ := m_scn a3
          have hD2 := MDr_s c2 hD1
          have g2 := c3.1.1
          have fr2 : FrM X μ ν2 := FrM_t (FrM_s a2) (FrM_s c2)
          rw [c1, ob, rf_90 g2, ob, c3.2.1.1]
          by_cases e5 : tk n B (tN n B (tN n B x)) = 1
          · rw [if_pos (by rw [kRa tk_le]; exact e5), m_nmd g2 ok hD2 (c3.2.1.2.2.2.2.1 e5), ob]
            cases e6 : nmd s (tW n B (tN n B (tN n B x))) with
            | none =>
              have eb' : rdN n B s (tN n B (tN n B x)) = .inl (5, tP n B (tN n B (tN n B x))) := by rw [rdN_c e5, e6]
              rw [eb', if_neg (show ¬ oI none = nI a from fun z => neg1_ne (q := a) (by omega) z.symm), if_pos (show oI none = -1 from rfl), if_pos (show oI none = -1 from rfl)]
              exact MOut_t fr2 (MOut_b (m_flo (v := 5) c3))
            | some b =>
              have eb' : rdN n B s (tN n B (tN n B x)) = .inr b := by rw [rdN_c e5, e6]
              have hb := (rdN_r eb').2.2
              have nb' : ¬ nI b = -1 := neg1_ne (by omega)
              rw [eb', show oI (some b) = nI b from rfl, if_neg nb', if_neg nb']
              show MOut X n B μ _ (if (s.1 0 7).testBit b = true then _ else if b = a ∨ (s.1 0 11).testBit b = true then _ else _)
              by_cases e7 : b = a
              · rw [if_pos (show nI b = nI a by rw [e7]), if_neg (by rw [e7]; exact e3), if_pos (Or.inl e7)]
                exact MOut_t fr2 (MOut_b (m_flo (v := 3) c3))
              · rw [if_neg (by rw [nI_eq_i (by omega) (by omega)]; exact e7), m_drd g2 hD2.1 ok (by omega), ob]
                by_cases e8 : (s.1 0 11).testBit b = true
                · have lb : ¬ (s.1 0 7).testBit b = true := by
                    have := ok.2.2.2.1 b
                    rw [e8] at this
                    obtain ⟨p, p1, p2⟩ := anyb_t.mp this.symm
                    have p2 : s.1 1 p = b + 1 := by simpa using p2
                    have := ((ok.2.1 p p1).2.2 (by omega)).2.1
                    rw [p2] at this
                    rw [show b + 1 - 1 = b from rfl] at this
                    rw [this]; decide
                  rw [e8, if_neg (show ¬ nI true.toNat = 0 by decide), if_neg lb, if_pos (show b = a ∨ true = true from Or.inr rfl)]
                  exact MOut_t fr2 (MOut_b (m_flo (v := 3) c3))
                · have e8' : (s.1 0 11).testBit b = false := by simpa using e8
                  rw [e8', if_pos (show nI false.toNat = 0 from rfl), e_aloneD g2 hD2.1 t7 (by omega), ob]
                  by_cases e9 : (s.1 0 7).testBit b = true
                  · rw [if_pos e9, e9, if_neg (by decide)]
                    exact MOut_t fr2 (MOut_b (m_flo (v := 5) c3))
                  · have e9' : (s.1 0 7).testBit b = false := by simpa using e9
                    have hne : ¬ (b = a ∨ false = true) := fun z => z.elim e7 (fun w => by cases w)
                    rw [if_neg e9, e9', if_pos (show nI false.toNat = 0 from rfl), if_neg hne, rp_90_14 g2, ob, a8, nI_1, e_paI (mk_94 g2) (by omega) (by decide), ob]
                    have hh : hlf 4 (8 + a) := by unfold hlf; omega
                    have fr3 : FrM X ν2 (ms_I ν2 (X + 90 + 4) (8 + a) (nI (b + 1))) := FrM_I hh
                    have hM3 : MT X n B (tN n B (tN n B x)) (ms_I ν2 (X + 90 + 4) (8 + a) (nI (b + 1))) := MT_w fr3 (by rw [iI, if_neg (by omega)]) rfl c3
                    have hD3 : MDr X (up (up s.1 1 a (b + 1)) 0 11 (s.1 0 11 ||| 2 ^ b), s.2) (ms_I ν2 (X + 90 + 4) (8 + a) (nI (b + 1))) := by
                      obtain ⟨m1, m2, oo, m3, m4, m5⟩ := hD2
                      exact ⟨mtn_11 (by decide) (mtn_1 m1), m2, oo, by rw [rI, if_neg (by omega)]; exact m3, m4, by rw [rI, if_neg (by omega), rI, if_neg (by omega)]; exact m5⟩
                    obtain ⟨ν4, d1, d2, d3⟩ := m_scn hM3
                    rw [show f_X11_scan (X + 90) (ms_I ν2 (X + 94) (8 + a) (nI (b + 1))) = some ν4 from d1, ob]
                    exact MOr rfl (FrM_t fr2 (FrM_t fr3 (FrM_s d2))) ⟨d3, ok_dre ok ha hb e3' e9' e4 e7 e8', MDr_s d2 hD3⟩
          · rw [if_neg (by rw [kRa tk_le]; exact e5), rdN_n e5]
            exact MOut_t fr2 (MOut_b (m_flo (v := 1) c3))
      · have la := (h1a.2.2 e4).1
        rw [if_neg (by rw [show (0 : Int32) = nI 0 from rfl, nI_le_i (by omega) (by omega)]; omega), if_neg (by rw [la]; decide), if_neg e4]
        exact MOut_t (FrM_s a2) (MOut_b (m_flo (v := 3) a3))
  · rw [if_neg (by rw [kRa tk_le]; exact e1), rdN_n e1]
    exact MOut_t (FrM_s a2) (MOut_b (m_flo (v := 1) a3))
end MCL
