/-! ===== a town's text: the model reads a clause ===== -/
section MCL
variable {X n x : Nat} {B : Nat → Nat} {s : Drf} {μ ν ρ : Mm}
variable {D : Tn} {a b d e f g : Nat}
theorem MT_f {k : Nat} {v : Int32} (hk : k = 11 ∨ k = 31 ∨ k = 8 ∨ k = 9) (h : MT X n B x μ) : MT X n B x (ms_I μ (X + 90) k v) := by
  obtain ⟨q1, ⟨t1, t2, t3, t4, t5, t6⟩, q3⟩ := h
  refine ⟨FrM_h (FrM_90 (by omega)) q1, ⟨?_, ?_, ?_, ?_, t5, fun e => ?_⟩, q3⟩
  · rw [rI, if_neg (by omega)]; exact t1
  · rw [rI, if_neg (by omega)]; exact t2
  · rw [rI, if_neg (by omega)]; exact t3
  · rw [rI, if_neg (by omega)]; exact t4
  · rw [rI, if_neg (by omega)]; exact t6 e
theorem oI_12 (h : ∀ t, tQ n B x = some t → t < 13) : (oI (tQ n B x) = (12 : Int32)) = (tQ n B x = some 12) := by
  cases e : tQ n B x with
  | none => exact propext ⟨fun z => absurd z (by decide), fun z => by cases z⟩
  | some t =>
    have := h t e
    show (nI t = nI 12) = _
    rw [nI_eq_i (by omega) (by decide)]
    simp
/-- the person is counted -/
theorem m_per1 {D1 D' : Tn} {m y : Nat} {w : Int64} (hM : MT X n B y μ) (hm : MTn (X + 90) 1 D1 μ) (h0 : D1 0 0 = m) (m8 : m < 8) (eu : up D1 0 0 (m + 1) = D') (ok : OkT D') (hn : ∀ k, k < m → mm_L μ (X + 93) k = s.2.1 k) (hw : mm_L μ (X + 93) m = w) (hf : ∃ o, mm_I μ (X + 90) 31 = nI o ∧ o < 512 ∧ (∀ t, t = 6 ∨ t = 7 ∨ t = 8 → o.testBit t = s.2.2 t) ∧ mm_I μ (X + 90) 8 = 0 ∧ mm_I μ (X + 90) 9 = -1) : MOut X n B μ (f_X11_readPerson_J100 (X + 90) μ) (.inr ((D', u1 s.2.1 m w, s.2.2), y)) := by
  have g := hM.1.1
  unfold f_X11_readPerson_J100
  rw [rp_90_12 g, ob, show ga_I (X + 92) 11 μ = _ from mr1 (j := 0) (by decide) g hm, ob, h0, nI_1, show pa_I (X + 92) 11 _ μ = _ from wa_92 (i := 11) g _ (by decide), ob]
  have fr : FrM X μ (ms_I μ (X + 90 + 2) 11 (nI (m + 1))) := FrM_I (Or.inl ⟨rfl, by decide⟩)
  refine MOr rfl fr ⟨MT_w fr (by rw [iI, if_neg (by omega)]) rfl hM, ok, ?_, fun k hk => ?_, ?_⟩
  · have := mtn_n (j := 0) (v := m + 1) (by decide) (by decide) hm
    rw [eu] at this
    exact this
  · have d0 : D' 0 0 = m + 1 := by rw [← eu, up_t]
    replace hk : k < D' 0 0 := hk
    show mm_L μ (X + 93) k = u1 s.2.1 m w k
    by_cases z : k = m
    · rw [z, u1_s]; exact hw
    · rw [u1_n _ _ z]; exact hn k (by omega)
  · obtain ⟨o, o1, o2, o3, o4⟩ := hf
    exact ⟨o, by rw [rI, if_neg (by omega)]; exact o1, o2, o3, by rw [rI, if_neg (by omega), rI, if_neg (by omega)]; exact o4⟩
theorem m_per (h : MS X n B s x μ) : MOut X n B μ (f_X11_readPerson (X + 90) μ) (if s.1 0 0 = 8 then .inl (4, tP n B x) else sPer n B s (tN n B x)) := by
  obtain ⟨hM, ok, hD⟩ := h
  have h1 := hM.1.1
  have o := ok.1
  unfold f_X11_readPerson
  rw [if_pos (by rw [mk_90 h1]), rp_90_12 h1, ob, show ga_I (X + 92) 11 μ = _ from mr1 (j := 0) (by decide) h1 hD.1, ob]
  by_cases e0 : s.1 0 0 = 8
  · rw [if_pos e0, if_pos (show nI (s.1 0 0) = 8 by rw [e0]; rfl)]
    exact MOut_b (m_flo (v := 4) hM)
  · have m8 : s.1 0 0 < 8 := by omega
    have t7 : s.1 0 7 < 2 ^ 8 := Nat.lt_of_lt_of_le o.2.2.2.2.2.2.2.2.1 (Nat.pow_le_pow_right (by decide) (by omega))
    rw [if_neg e0, if_neg (by rw [show (8 : Int32) = nI 8 from rfl, nI_eq_i (by omega) (by omega)]; exact e0)]
    obtain ⟨ν, a1, a2, a3⟩ := m_scn hM
    have hD1 := MDr_s a2 hD
    have g1 := a3.1.1
    rw [a1, ob, rf_90 g1, ob, a3.2.1.1]
    unfold sPer
    by_cases e1 : tk n B (tN n B x) = 1
    · rw [if_pos e1, if_pos (by rw [kRa tk_le]; exact e1), m_nmd g1 ok hD1 (a3.2.1.2.2.2.2.1 e1), ob]
      cases e2 : nmd s (tW n B (tN n B x)) with
      | some p =>
        have hp := (ff_some.mp e2).1
        rw [if_neg (show ¬ (some p : Option Nat) = none by simp), if_neg (show ¬ oI (some p) = -1 from neg1_ne (by omega))]
        exact MOut_t (FrM_s a2) (MOut_b (m_flo (v := 3) a3))
      | none =>
        rw [if_pos rfl, if_pos (show oI none = -1 from rfl), rp_90_13 g1, ob, rl_90 g1, ob, a3.2.1.2.2.2.2.1 e1, wa_93 g1 _ m8, ob]
        have fr1 : FrM X ν (ms_L ν (X + 93) (s.1 0 0) (tW n B (tN n B x))) := FrM_L
        have hM2 : MT X n B (tN n B x) (ms_L ν (X + 93) (s.1 0 0) (tW n B (tN n B x))) := MT_w fr1 rfl (by rw [lL, if_neg (by omega)]) a3
        have nm2 : ∀ k, k < s.1 0 0 → mm_L (ms_L ν (X + 93) (s.1 0 0) (tW n B (tN n B x))) (X + 93) k = s.2.1 k := fun k hk => by rw [rL, if_neg (by omega)]; exact hD1.2.1 k hk
        have nw2 : mm_L (ms_L ν (X + 93) (s.1 0 0) (tW n B (tN n B x))) (X + 93) (s.1 0 0) = tW n B (tN n B x) := by rw [rL, if_pos ⟨rfl, rfl⟩]
        have mt2 : MTn (X + 90) 1 s.1 (ms_L ν (X + 93) (s.1 0 0) (tW n B (tN n B x))) := hD1.1
        have ff2 : ∃ o, mm_I (ms_L ν (X + 93) (s.1 0 0) (tW n B (tN n B x))) (X + 90) 31 = nI o ∧ o < 512 ∧ (∀ t, t = 6 ∨ t = 7 ∨ t = 8 → o.testBit t = s.2.2 t) ∧ mm_I (ms_L ν (X + 93) (s.1 0 0) (tW n B (tN n B x))) (X + 90) 8 = 0 ∧ mm_I (ms_L ν (X + 93) (s.1 0 0) (tW n B (tN n B x))) (X + 90) 9 = -1 := hD1.2.2
        generalize ms_L ν (X + 93) (s.1 0 0) (tW n B (tN n B x)) = ν1 at fr1 hM2 nm2 nw2 mt2 ff2 ⊢
        obtain ⟨ν2, c1, c2, c3⟩ := m_scn hM2
        have g2 := c3.1.1
        have fr2 : FrM X μ ν2 := FrM_t (FrM_s a2) (FrM_t fr1 (FrM_s c2))
        have mt3 : MTn (X + 90) 1 s.1 ν2 := mtn_x (fun q a _ => c2.2.2.1 q (by omega)) mt2
        have nm3 : ∀ k, k < s.1 0 0 → mm_L ν2 (X + 93) k = s.2.1 k := fun k hk => by rw [c2.2.2.2.1 _ (by omega)]; exact nm2 k hk
        have nw3 : mm_L ν2 (X + 93) (s.1 0 0) = tW n B (tN n B x) := by rw [c2.2.2.2.1 _ (by omega)]; exact nw2
        have ff3 : ∃ o, mm_I ν2 (X + 90) 31 = nI o ∧ o < 512 ∧ (∀ t, t = 6 ∨ t = 7 ∨ t = 8 → o.testBit t = s.2.2 t) ∧ mm_I ν2 (X + 90) 8 = 0 ∧ mm_I ν2 (X + 90) 9 = -1 := by
          rw [c2.2.2.2.2.1 31 (by omega), c2.2.2.2.2.1 8 (by omega), c2.2.2.2.2.1 9 (by omega)]; exact ff2
        rw [c1, ob, rf_90 g2, ob, c3.2.1.1, rf_90 g2, ob, c3.2.1.2.2.2.1]
        have hq : ∀ t, tQ n B (tN n B (tN n B x)) = some t → t < 13 := fun t ht => (tQ_lt ht).2.1
        by_cases e4 : tQ n B (tN n B (tN n B x)) = some 12
        · have e5 := (tQ_lt e4).1
          rw [if_pos e4, if_pos (by rw [kRa tk_le]; exact e5), if_pos (by rw [oI_12 hq]; exact e4), rp_90_12 g2, ob, show ga_I (X + 92) 18 ν2 = _ from mr1 (j := 7) (by decide) g2 mt3, ob, b_one (by omega), nI_or, show pa_I (X + 92) 18 _ ν2 = _ from wa_92 (i := 18) g2 _ (by decide), ob]
          have fr4 : FrM X ν2 (ms_I ν2 (X + 90 + 2) 18 (nI (s.1 0 7 ||| 2 ^ s.1 0 0))) := FrM_I (Or.inl ⟨rfl, by decide⟩)
          have hM4 : MT X n B (tN n B (tN n B x)) (ms_I ν2 (X + 90 + 2) 18 (nI (s.1 0 7 ||| 2 ^ s.1 0 0))) := MT_w fr4 (by rw [iI, if_neg (by omega)]) rfl c3
          have mt4 : MTn (X + 90) 1 (up s.1 0 7 (s.1 0 7 ||| 2 ^ s.1 0 0)) (ms_I ν2 (X + 90 + 2) 18 (nI (s.1 0 7 ||| 2 ^ s.1 0 0))) := mtn_n (j := 7) (by decide) (by decide) mt3
          obtain ⟨ν5, d1, d2, d3⟩ := m_scn hM4
          rw [show f_X11_scan (X + 90) (ms_I ν2 (X + 92) 18 (nI (s.1 0 7 ||| 2 ^ s.1 0 0))) = some ν5 from d1, ob]
          have eu : up (up s.1 0 7 (s.1 0 7 ||| 2 ^ s.1 0 0)) 0 0 (s.1 0 0 + 1) = up (up s.1 0 0 (s.1 0 0 + 1)) 0 7 (s.1 0 7 ||| 2 ^ s.1 0 0) := by
            funext r k
            unfold up
            by_cases z1 : r = 0 ∧ k = 0
            · rw [if_pos z1, if_neg (by omega), if_pos z1]
            · rw [if_neg z1]
              by_cases z2 : r = 0 ∧ k = 7
              · rw [if_pos z2, if_pos z2]
              · rw [if_neg z2, if_neg z2, if_neg z1]
          refine MOut_t (FrM_t fr2 (FrM_t fr4 (FrM_s d2))) (m_per1 (s := s) d3 (mtn_x (fun q a _ => d2.2.2.1 q (by omega)) mt4) rfl m8 eu (ok_per ok m8 true) (fun k hk => by rw [d2.2.2.2.1 _ (by omega)]; exact nm3 k hk) (by rw [d2.2.2.2.1 _ (by omega)]; exact nw3) ?_)
          rw [d2.2.2.2.2.1 31 (by omega), d2.2.2.2.2.1 8 (by omega), d2.2.2.2.2.1 9 (by omega), rI, if_neg (by omega), rI, if_neg (by omega), rI, if_neg (by omega)]
          exact ff3
        · rw [if_neg e4]
          have fin := MOut_t fr2 (m_per1 (s := s) c3 mt3 rfl m8 rfl (ok_per ok m8 false) nm3 nw3 ff3)
          by_cases e5 : tk n B (tN n B (tN n B x)) = 1
          · rw [if_pos (by rw [kRa tk_le]; exact e5), if_neg (by rw [oI_12 hq]; exact e4)]
            exact fin
          · rw [if_neg (by rw [kRa tk_le]; exact e5)]
            exact fin
    · rw [if_neg e1, if_neg (by rw [kRa tk_le]; exact e1)]
      exact MOut_t (FrM_s a2) (MOut_b (m_flo (v := 1) a3))
theorem m_set {t : Nat} (ht : t = 6 ∨ t = 7 ∨ t = 8) (h : MS X n B s x μ) : MOut X n B μ (f_X11_readClause_J136 (X + 90) (nI t) μ) (if s.2.2 t then .inl (3, tP n B x) else sSet n B t (s.1, s.2.1, fun i => s.2.2 i || i == t) (tN n B x)) := by
  obtain ⟨hM, ok, m1, m2, o, m3, m4, m5, m6⟩ := h
  have h1 := hM.1.1
  unfold f_X11_readClause_J136
  rw [rf_90 h1, ob, m3, b_bit (by omega) (by omega), m5 t ht]
  cases e3 : s.2.2 t with
  | true =>
    rw [if_pos (show nI true.toNat = 1 from rfl), if_pos rfl]
    exact MOut_b (m_flo (v := 3) hM)
  | false =>
    rw [if_neg (show ¬ nI false.toNat = 1 by decide), if_neg (by decide), ob, b_one (by omega), nI_or, wf_90 h1, ob]
    have fr : FrM X μ (ms_I μ (X + 90) 31 (nI (o ||| 2 ^ t))) := FrM_90 (by omega)
    have hM1 : MT X n B x (ms_I μ (X + 90) 31 (nI (o ||| 2 ^ t))) := MT_f (by omega) hM
    have hD1 : MDr X (s.1, s.2.1, fun i => s.2.2 i || i == t) (ms_I μ (X + 90) 31 (nI (o ||| 2 ^ t))) := by
      refine ⟨mtn_x (fun q a _ => by rw [iI, if_neg (by omega)]) m1, m2, o ||| 2 ^ t, by rw [rI, if_pos ⟨rfl, rfl⟩], Nat.or_lt_two_pow (n := 9) m4 (Nat.pow_lt_pow_right (by decide) (by omega)), fun u hu => ?_, by rw [rI, if_neg (by omega), rI, if_neg (by omega)]; exact m6⟩
      show _ = (s.2.2 u || u == t)
      by_cases z : u = t
      · rw [z, or_p1]; simp
      · rw [or_p2 z, m5 u hu]
        have : (u == t) = false := by simpa using z
        rw [this, Bool.or_false]
    generalize ms_I μ (X + 90) 31 (nI (o ||| 2 ^ t)) = μ1 at fr hM1 hD1 ⊢
    obtain ⟨ν, a1, a2, a3⟩ := m_scn hM1
    have hD2 := MDr_s a2 hD1
    have fr2 : FrM X μ ν := FrM_t fr (FrM_s a2)
    rw [a1, ob]
    have key : ∀ lo hi, hi < 10000 → lo ≤ hi → (∀ v, lo ≤ v → v ≤ hi → OkT (up s.1 0 (if t = 6 then 4 else if t = 7 then 5 else 8) v)) → MOut X n B μ ((f_X11_readNumber (X + 90) (nI lo) (nI hi) ν).bind fun x180 => if x180.1 = 0 then some ((0 : Int32), x180.2) else f_X11_readClause_J202 (X + 90) (nI t) x180.2) (eb (rdB n B lo hi (tN n B x)) fun v => .inr ((up s.1 0 (if t = 6 then 4 else if t = 7 then 5 else 8) v, s.2.1, fun i => s.2.2 i || i == t), tN n B (tN n B x))) := by
      intro lo hi hh hlo hok
      obtain ⟨C1, C2⟩ := m_num (lo := lo) (hi := hi) a3 (by omega) hh
      cases ec : rdB n B lo hi (tN n B x) with
      | inl e =>
        obtain ⟨π, p1, p2, p3⟩ := C1 e ec
        rw [p1, ob, if_pos rfl]
        exact MOl rfl (FrM_t fr2 p2) p3
      | inr v =>
        obtain ⟨ν3, d1, d2, d3, d4⟩ := C2 v ec
        have hv := rdB_r ec
        have okv := hok v hv.2.2.1 hv.2.2.2
        have g3 := d4.1.1
        have fr3 : FrM X μ ν3 := FrM_t fr2 (FrM_t (FrM_90 (by omega)) (FrM_s d2))
        have hD3 : MDr X (s.1, s.2.1, fun i => s.2.2 i || i == t) ν3 := by
          refine MDr_s d2 ?_
          obtain ⟨q1, q2, oo, q3, q4, q5, q6⟩ := hD2
          exact ⟨mtn_x (fun q a _ => by rw [iI, if_neg (by omega)]) q1, q2, oo, by rw [rI, if_neg (by omega)]; exact q3, q4, q5, by rw [rI, if_neg (by omega), rI, if_neg (by omega)]; exact q6⟩
        rw [d1, ob, if_neg one_ne]
        show MOut X n B μ (f_X11_readClause_J202 (X + 90) (nI t) ν3) (.inr ((up s.1 0 (if t = 6 then 4 else if t = 7 then 5 else 8) v, s.2.1, fun i => s.2.2 i || i == t), tN n B (tN n B x)))
        have j230 : ∀ j, j < 11 → (j ≠ 1 ∧ j ≠ 2 ∧ j ≠ 3 ∧ j ≠ 6 ∧ j ≠ 9) → j ≠ 0 → OkT (up s.1 0 j v) → MOut X n B μ (f_X11_readClause_J230 (X + 90) (X + 92) 11 (nI j) ν3) (.inr ((up s.1 0 j v, s.2.1, fun i => s.2.2 i || i == t), tN n B (tN n B x))) := by
          intro j hj hj2 hj0 hok
          unfold f_X11_readClause_J230
          rw [rf_90 g3, ob, d3, show (11 : Int32) + nI j = nI (11 + j) from nI_add 11 j, wa_92 g3 _ (by omega), ob]
          obtain ⟨k1, k2⟩ := MS_n (s := (s.1, s.2.1, fun i => s.2.2 i || i == t)) (j := 11 + j) (by omega) (by omega) ⟨d4, ok, hD3⟩ hok (mtn_n hj hj2 hD3.1) (if_neg (by omega))
          exact MOr rfl (FrM_t fr3 k2) k1
        unfold f_X11_readClause_J202
        rw [rp_90_12 g3, ob]
        rcases ht with t6 | t7 | t8
        · rw [if_pos (show nI t = 6 by rw [t6]; rfl)]
          rw [show (if t = 6 then 4 else if t = 7 then 5 else 8) = 4 by rw [if_pos t6]] at okv ⊢
          exact j230 4 (by decide) (by decide) (by decide) okv
        · rw [if_neg (show ¬ nI t = 6 by rw [t7]; decide), if_pos (show nI t = 7 by rw [t7]; rfl)]
          rw [show (if t = 6 then 4 else if t = 7 then 5 else 8) = 5 by rw [if_neg (by omega), if_pos t7]] at okv ⊢
          exact j230 5 (by decide) (by decide) (by decide) okv
        · rw [if_neg (show ¬ nI t = 6 by rw [t8]; decide), if_neg (show ¬ nI t = 7 by rw [t8]; decide)]
          rw [show (if t = 6 then 4 else if t = 7 then 5 else 8) = 8 by rw [if_neg (by omega), if_neg (by omega)]] at okv ⊢
          exact j230 8 (by decide) (by decide) (by decide) okv
    unfold sSet
    rcases ht with t6 | t7 | t8
    · have := key 0 4095 (by decide) (by decide) (fun v _ hv => by rw [if_pos t6]; exact ok_law ok (by omega))
      rw [if_neg (show ¬ nI t = 7 by rw [t6]; decide), show (if t = 7 then rdB n B 1 28 (tN n B x) else rdB n B 0 4095 (tN n B x)) = rdB n B 0 4095 (tN n B x) from if_neg (by omega)]
      exact this
    · have := key 1 28 (by decide) (by decide) (fun v hv1 hv => by rw [if_neg (by omega), if_pos t7]; exact ok_year ok ⟨hv1, hv⟩)
      rw [if_pos (show nI t = 7 by rw [t7]; rfl), show (if t = 7 then rdB n B 1 28 (tN n B x) else rdB n B 0 4095 (tN n B x)) = rdB n B 1 28 (tN n B x) from if_pos t7]
      exact this
    · have := key 0 4095 (by decide) (by decide) (fun v _ hv => by rw [if_neg (by omega), if_neg (by omega)]; exact ok_deep ok (by omega))
      rw [if_neg (show ¬ nI t = 7 by rw [t8]; decide), show (if t = 7 then rdB n B 1 28 (tN n B x) else rdB n B 0 4095 (tN n B x)) = rdB n B 0 4095 (tN n B x) from if_neg (by omega)]
      exact this
theorem m_cls (h : MS X n B s x μ) : MOut X n B μ (f_X11_readClause (X + 90) μ) (cls n B s x) := by
  have hM := h.1
  have h1 := hM.1.1
  unfold f_X11_readClause
  rw [if_pos (by rw [mk_90 h1]), rf_90 h1, ob, hM.2.1.1]
  have e16 : (if nI (kR (tk n B x)) = (1 : Int32) then (gf_I 12 4 (X + 90) μ).bind fun x9 => f_X11_readClause_J16 (X + 90) x9 μ else f_X11_readClause_J16 (X + 90) (-1) μ) = f_X11_readClause_J16 (X + 90) (oI (tQ n B x)) μ := by
    by_cases e : tk n B x = 1
    · rw [if_pos (by rw [kRa tk_le]; exact e), rf_90 h1, ob, hM.2.1.2.2.2.1]
    · rw [if_neg (by rw [kRa tk_le]; exact e)]
      have : tQ n B x = none := if_neg e
      rw [this]; rfl
  rw [e16]
  unfold f_X11_readClause_J16 cls
  have bad := MOut_b (m_flo (v := 1) hM)
  cases e : tQ n B x with
  | none => exact bad
  | some t =>
    have ht := (tQ_lt e).2.1
    have ht' : t = 0 ∨ t = 1 ∨ t = 2 ∨ t = 3 ∨ t = 4 ∨ t = 5 ∨ t = 6 ∨ t = 7 ∨ t = 8 ∨ t = 9 ∨ t = 10 ∨ t = 11 ∨ t = 12 := by omega
    rcases ht' with z | z | z | z | z | z | z | z | z | z | z | z | z <;> subst z
    · exact MOut_b (m_per h)
    · exact MOut_b (m_dre h)
    · exact MOut_b (m_fac h)
    · exact MOut_b (m_tal h)
    · exact MOut_b (m_nap h)
    · exact MOut_b (m_dul h)
    · exact m_set (t := 6) (by decide) h
    · exact m_set (t := 7) (by decide) h
    · exact m_set (t := 8) (by decide) h
    · exact MOut_b (m_wis (g := 0) (by decide) h)
    · exact MOut_b (m_wis (g := 1) (by decide) h)
    · exact MOut_b (m_tra h)
    · exact bad
/-- how the model's reading of all clauses ends -/
def KOut (X n : Nat) (B : Nat → Nat) (μ : Mm) (r : Option (Mm ⊕ (Mm ⊕ (Int32 × Mm)))) (e : Er (Drf × Nat)) : Prop := match e with
  | .inl f => ∃ ν, r.bind (sm (fun b => some ((-1 : Int32), b)) (sm (fun b => f_X11_town_J45 (X + 90) b) (fun b => f_X11_town_J63 (X + 90) b.1 b.2))) = some ((-1 : Int32), ν) ∧ FrM X μ ν ∧ FltM X f ν
  | .inr z => ∃ ν, r = some (.inr (.inr (nI (z.1.1 0 12), ν))) ∧ FrM X μ ν ∧ MS X n B z.1 z.2 ν
theorem KOut_t {r : Option (Mm ⊕ (Mm ⊕ (Int32 × Mm)))} {e : Er (Drf × Nat)} (h : FrM X μ ν) (ho : KOut X n B ν r e) : KOut X n B μ r e := by
  unfold KOut at ho ⊢
  cases e with
  | inl f => obtain ⟨ρ, a1, a2, a3⟩ := ho; exact ⟨ρ, a1, FrM_t h a2, a3⟩
  | inr z => obtain ⟨ρ, a1, a2, a3⟩ := ho; exact ⟨ρ, a1, FrM_t h a2, a3⟩
theorem m_rdl : ∀ (k i : Nat) (s : Drf) (x : Nat) (ν : Mm), MS X n B s x ν → n < x + k → i ≤ x → s.1 0 12 = i → KOut X n B ν (whl (f_X11_town_L20 (X + 90)) (nI i, ν)) (rdl n B k s x) := by
  intro k
  induction k with
  | zero => intro i s x ν h h2; have := h.1.2.2; omega
  | succ k ih =>
    intro i s x ν h hn hi h12
    have hM := h.1
    have hx := hM.2.2
    have h1 := hM.1.1
    have n9 := hM.1.2.2.2.1
    unfold rdl
    obtain ⟨z, hz⟩ : ∃ z, z = f_X11_town_L20 (X + 90) (nI i, ν) := ⟨_, rfl⟩
    have body := hz
    unfold f_X11_town_L20 at body
    rw [rf_90 h1, ob, hM.2.1.1] at body
    by_cases e0 : tk n B x = 0
    · rw [if_pos (by rw [kRd tk_le]; exact e0)] at body
      rw [if_pos e0, whl_r (hz.symm.trans body)]
      exact ⟨ν, by rw [h12], FrM_r, h⟩
    · have hgt := tN_gt hx e0
      have hle := tN_le (B := B) hx
      rw [if_neg e0]
      rw [if_neg (by rw [kRd tk_le]; exact e0)] at body
      have co := m_cls h
      cases em : cls n B s x with
      | inl f =>
        rw [em] at co
        obtain ⟨ν1, a1, a2, a3⟩ := co
        rw [a1, ob, if_pos rfl] at body
        rw [whl_r (hz.symm.trans body)]
        exact ⟨ν1, rfl, a2, a3⟩
      | inr q =>
        obtain ⟨s', y⟩ := q
        rw [em] at co
        obtain ⟨ν1, a1, a2, a3⟩ := co
        obtain ⟨c1, c2, c3, c4⟩ := cls_ok h.2.1 hx em
        have g1 := a3.1.1.1
        rw [a1, ob, if_neg one_ne, rf_90 g1, ob, a3.1.2.1.1] at body
        show KOut X n B ν _ (eb (if tk n B y = 3 then .inr (s', tN n B y) else .inl (1, tP n B y)) _)
        by_cases e3 : tk n B y = 3
        · rw [if_pos (by rw [kRc tk_le]; exact e3)] at body
          obtain ⟨ν2, b1, b2, b3⟩ := m_scn a3.1
          rw [b1, ob, ob, nI_1] at body
          rw [if_pos e3, whl_l (hz.symm.trans body)]
          have y1 := tN_le (B := B) c3
          have y2 := tN_ge (B := B) c3
          have hms : MS X n B (cl1 s') (tN n B y) ν2 := by
            obtain ⟨q1, q2, q3⟩ := MDr_s b2 a3.2.2
            exact ⟨b3, ok_cl1 c1 (by omega), mtn_11 (by decide) q1, q2, q3⟩
          refine KOut_t (FrM_t a2 (FrM_s b2)) (ih (i + 1) (cl1 s') (tN n B y) ν2 hms (by omega) (by omega) ?_)
          show s'.1 0 12 + 1 = i + 1
          omega
        · rw [if_neg (by rw [kRc tk_le]; exact e3)] at body
          rw [if_neg e3, whl_r (hz.symm.trans body)]
          obtain ⟨π, p1, p2, p3⟩ := m_fl (v := 1) a3.1
          replace p1 : f_X11_fails (X + 90) 1 ν1 = some (0, π) := p1
          refine ⟨π, ?_, FrM_t a2 p2, p3⟩
          show f_X11_town_J45 (X + 90) ν1 = _
          unfold f_X11_town_J45
          rw [p1, ob]
end MCL
