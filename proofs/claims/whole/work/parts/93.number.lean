/-! ===== number ===== -/
theorem e_tapeC {X n : Nat} {B : Nat → Nat} {p : Nat} {μ : Mm} (h : Sh X μ) (hp : Cp X n B μ) (hpn : p < n) : f_X5_at (X + 1) (nI p) μ = some (nI (B p)) := by
  obtain ⟨n9, -, h1, h2⟩ := hp
  rw [e_tapeAt (mk_1 h) (mp_1_0 h) (mk_2 h) h1 n9, if_pos (inR_nI hpn (by omega)), nI_clamp (by omega), h2 p hpn]
theorem byte_111 : ∀ v, v < 256 → (((nI v).toInt8.toInt32 = (111 : Int32)) ↔ v = 111) := by decide +kernel
theorem byte_48 : ∀ v, v < 256 → ((0 : Int32) ≤ (nI v).toInt8.toInt32 - 48 ∧ (nI v).toInt8.toInt32 - 48 ≤ nI 7 ↔ 48 ≤ v ∧ v < 56) := by decide +kernel
theorem byte_v : ∀ v, v < 56 → 48 ≤ v → (nI v).toInt8.toInt32 - 48 = nI (v - 48) := by decide +kernel
theorem byte_c : ∀ v, v < 256 → ∀ n, n ≤ 8 → (inR (nI v - 48) n ↔ 48 ≤ v ∧ v < 48 + n) := by decide +kernel
/-- the digit that a byte tells -/
def dgt (B : Nat → Nat) (p : Nat) : Nat := if B p = 111 then 15 else B p - 48
def gdR (B : Nat → Nat) (p : Nat) : Bool := decide (B p = 111) || (decide (48 ≤ B p) && decide (B p < 56))
def gdC (T : Tn) (B : Nat → Nat) (p : Nat) : Bool := ((T 0 7).testBit p == decide (B p = 111)) && (decide (B p = 111) || (decide (48 ≤ B p) && decide (B p < 48 + T 0 0)))
/-- the class's row of the first k bytes -/
def rwB (T : Tn) (B : Nat → Nat) (k : Nat) : Nat := dg (fun p => if p < k ∧ B p ≠ 111 then (B p - 48) % 16 else 15) 8
theorem rwB_d (B : Nat → Nat) (k : Nat) : ∀ p, (fun p => if p < k ∧ B p ≠ 111 then (B p - 48) % 16 else 15) p < 16 := fun p => by
  show (if _ then _ else _) < 16
  split
  · exact Nat.mod_lt _ (by decide)
  · decide
theorem rwB_lt (T : Tn) (B : Nat → Nat) (k : Nat) : rwB T B k < 2 ^ 32 := by rw [← m16_8]; exact dg_lt (rwB_d B k) 8
theorem rwB_nb (T : Tn) (B : Nat → Nat) (k p : Nat) (hp : p < 8) : nb (rwB T B k) p = if p < k ∧ B p ≠ 111 then (B p - 48) % 16 else 15 := by
  unfold rwB
  rw [nb_dg (rwB_d B k), if_pos hp]
theorem rwB_0 (T : Tn) (B : Nat → Nat) : nI (rwB T B 0) = (-1 : Int32) := by
  have : rwB T B 0 = 2 ^ 32 - 1 := by
    apply nb_inj (n := 8)
    · rw [m16_8]; exact rwB_lt _ _ _
    · rw [m16_8]; decide
    · intro p hp
      rw [rwB_nb _ _ _ _ hp, if_neg (by omega), nb_full p hp]
  rw [this]; decide
theorem rwB_s {T : Tn} {B : Nat → Nat} {k : Nat} (h : B k ≠ 111) (hk : k < 8) (hb : B k - 48 < 16) : dg (u1 (nb (rwB T B k)) k (B k - 48)) 8 = rwB T B (k + 1) := by
  apply dg_x
  intro p hp
  by_cases e : p = k
  · subst e
    rw [u1_s, if_pos ⟨by omega, h⟩, Nat.mod_eq_of_lt hb]
  · rw [u1_n _ _ e, rwB_nb _ _ _ _ hp]
    by_cases q : p < k ∧ B p ≠ 111
    · rw [if_pos q, if_pos ⟨by omega, q.2⟩]
    · rw [if_neg q, if_neg (fun q2 => q ⟨by omega, q2.2⟩)]
theorem rwB_o {T : Tn} {B : Nat → Nat} {k : Nat} (h : B k = 111) : rwB T B (k + 1) = rwB T B k := by
  apply dg_x
  intro p hp
  by_cases q : p < k ∧ B p ≠ 111
  · rw [if_pos q, if_pos ⟨by omega, q.2⟩]
  · rw [if_neg q, if_neg (fun q2 => q ⟨by
      by_cases e : p = k
      · subst e; exact absurd h q2.2
      · omega, q2.2⟩)]
section CALLS
variable {b L : Nat} {xs : Nat → Int32} {X i c : Nat} {s : Sv} {μ : Mm}
theorem c_number (h : IC X i c s μ) : f_X10_numberOnTape X μ = some (if s.2.2.1 = s.1 0 0 ∧ (∀ p, p < s.1 0 0 → gdC s.1 s.2.2.2.1 p = true) then oI (nmb (okc s.1) (dgt s.2.2.2.1) (drf s.1 0 (s.1 0 0)) 0) else -1) := by
  have h1 := h.1.1
  have hw := cb_w h.1
  have hp := cb_p h.1
  have hCp := h.2.2.1
  obtain ⟨n9, hB, hn1, hby⟩ := h.2.2.1
  obtain ⟨ok, ht, hct, htu, -, h15⟩ := h.2.1
  have hn := ok.1.1
  unfold f_X10_numberOnTape f_X10_numberOnTape_J105
  rw [if_pos (by rw [mk_0 h1]), rp_0_0 h1, ob, rf_1 h1, ob, hn1, hp, ob, ct_n hw hct, ob]
  by_cases e1 : s.2.2.1 = s.1 0 0
  · rw [if_pos (by rw [e1])]
    have hst : ∀ p, p < s.1 0 0 → f_X10_numberOnTape_L23 X μ (nI (rwB s.1 s.2.2.2.1 p), nI p) = if gdC s.1 s.2.2.2.1 p then some (.inl (nI (rwB s.1 s.2.2.2.1 (p + 1)), nI (p + 1))) else if ((s.1 0 7).testBit p == decide (s.2.2.2.1 p = 111)) then some (.inr (.inr (.inl ()))) else some (.inr (.inl ())) := by
      intro p hp1
      have hb := hB p
      simp only [f_X10_numberOnTape_L23, f_X10_numberOnTape_J62, f_X10_numberOnTape_J99]
      rw [hp, ob, ct_n hw hct, ob, if_neg (by rw [nI_le_i (by omega) (by omega)]; omega), rp_0_0 h1, ob, e_tapeC h1 hCp (by omega), ob, ob, e_isAlone hw hct ok (by omega), ob]
      simp only [hp, ob, nI_1, e_isPerson' hw hct ok, bz_if]
      have e111 : (nI (s.2.2.2.1 p) = (111 : Int32)) = (s.2.2.2.1 p = 111) := nI_eq_i (b := 111) (by omega) (by decide)
      have hper : inR (nI (s.2.2.2.1 p) - 48) (s.1 0 0) = (48 ≤ s.2.2.2.1 p ∧ s.2.2.2.1 p < 48 + s.1 0 0) := propext (byte_c _ hb _ hn)
      unfold gdC
      simp only [e111]
      by_cases q1 : s.2.2.2.1 p = 111
      · rw [if_pos q1, decide_eq_true q1]
        cases ea : (s.1 0 7).testBit p with
        | true => rw [if_pos (show nI true.toNat = 1 from rfl), if_pos q1, rwB_o q1]; rfl
        | false => rw [if_neg (by decide)]; rfl
      · rw [if_neg q1, decide_eq_false q1]
        cases ea : (s.1 0 7).testBit p with
        | true => rw [if_neg (by decide)]; rfl
        | false =>
          rw [if_pos (show nI false.toNat = 0 from rfl), if_neg q1]
          by_cases q2 : 48 ≤ s.2.2.2.1 p ∧ s.2.2.2.1 p < 48 + s.1 0 0
          · rw [if_pos (by rw [hper]; exact q2), decide_eq_true q2.1, decide_eq_true q2.2, show (48 : Int32) = nI 48 from rfl, pk_sub q2.1, e_withDream (rwB_lt _ _ _) (by omega) (by omega), ob, rwB_s q1 (by omega) (by omega)]
            rfl
          · rw [if_neg (by rw [hper]; exact q2)]
            have : (decide (48 ≤ s.2.2.2.1 p) && decide (s.2.2.2.1 p < 48 + s.1 0 0)) = false := by
              by_cases q3 : 48 ≤ s.2.2.2.1 p
              · rw [decide_eq_true q3, decide_eq_false (fun q4 => q2 ⟨q3, q4⟩)]; rfl
              · rw [decide_eq_false q3]; rfl
            rw [this]; rfl
    rw [show ((-1 : Int32), (0 : Int32)) = (nI (rwB s.1 s.2.2.2.1 0), nI 0) by rw [rwB_0]; rfl]
    refine (whl_fb (s.1 0 0) (fun p => (nI (rwB s.1 s.2.2.2.1 p), nI p)) (fun p => !gdC s.1 s.2.2.2.1 p) (fun p => if ((s.1 0 7).testBit p == decide (s.2.2.2.1 p = 111)) then .inr (.inl ()) else .inl ()) (b := .inr (.inr (nI (rwB s.1 s.2.2.2.1 (s.1 0 0))))) rfl (fun p hp1 hq => ?_) (fun p hp1 hq => ?_) ?_).trans ?_
    · have : gdC s.1 s.2.2.2.1 p = true := by simpa using hq
      rw [hst p hp1, this]; rfl
    · have : gdC s.1 s.2.2.2.1 p = false := by simpa using hq
      rw [hst p hp1, this]
      rw [if_neg (by decide)]
      split <;> rfl
    · simp only [f_X10_numberOnTape_L23]
      rw [hp, ob, ct_n hw hct, ob, if_pos (nI_le (Nat.le_refl _) (by omega))]
    · cases ef : ff (fun p => !gdC s.1 s.2.2.2.1 p) (s.1 0 0) with
      | some j =>
        obtain ⟨g1, g2, -⟩ := ff_some.mp ef
        have : gdC s.1 s.2.2.2.1 j = false := by simpa using g2
        rw [if_neg (fun q => by rw [q.2 j g1] at this; cases this)]
        show sm _ _ (if _ then _ else _) = _
        split <;> rfl
      | none =>
        have hall : ∀ p, p < s.1 0 0 → gdC s.1 s.2.2.2.1 p = true := fun p hp => by have := ff_none.mp ef p hp; simpa using this
        rw [if_pos ⟨e1, hall⟩]
        have hdig : ∀ p ∈ drf s.1 0 (s.1 0 0), nb (rwB s.1 s.2.2.2.1 (s.1 0 0)) p = dgt s.2.2.2.1 p ∧ dgt s.2.2.2.1 p < 8 := by
          intro p hp
          have hpm := drf_mem.mp hp
          have hg := hall p (by omega)
          unfold gdC at hg
          rw [hpm.2.2] at hg
          have q1 : s.2.2.2.1 p ≠ 111 := fun q => by rw [decide_eq_true q] at hg; cases hg
          rw [decide_eq_false q1] at hg
          have q2 : 48 ≤ s.2.2.2.1 p ∧ s.2.2.2.1 p < 48 + s.1 0 0 := by
            simp at hg
            exact hg
          rw [rwB_nb _ _ _ _ (by omega), if_pos ⟨by omega, q1⟩]
          unfold dgt
          rw [if_neg q1, Nat.mod_eq_of_lt (by omega)]
          exact ⟨rfl, by omega⟩
        show (some c).bind (fun x => (gf_P 8 8 x μ).bind fun x109 => (f_X9_numberOf x109 (nI (rwB s.1 s.2.2.2.1 (s.1 0 0))) μ).bind fun x113 => some x113) = _
        rw [ob, tc_p8 hw, ob, e_numberOf hw ok htu (rwB_lt _ _ _) (fun p hp => Or.inl (by rw [(hdig p hp).1]; exact (hdig p hp).2)), ob, nmb_x _ _ (fun p hp => (hdig p hp).1)]
  · rw [if_neg (by rw [nI_eq_i (by omega) (by omega)]; exact e1), if_neg (fun q => e1 q.1)]
theorem dg_fold {d : Nat → Nat} {k : Nat} (hk : k < 8) (h : d k < 16) (hd : ∀ p, p < k → d p < 16) : lN (dg d k) ||| ((nI (d k)).toInt64 <<< (((4 : Int32) * nI k).toInt64 &&& 63)) = lN (dg d (k + 1)) := by
  have : dg d k < 16 ^ k := by
    have e : dg d k = dg (fun p => if p < k then d p else 0) k := dg_x (fun p hp => by rw [if_pos hp])
    rw [e]
    exact dg_lt (fun p => by
      show (if _ then _ else _) < 16
      split
      · exact hd p (by assumption)
      · decide) k
  exact row_or this h hk
theorem r_number {ν : Mm} (hν : IR X s ν) (hB : ∀ p, s.2.2.2.1 p < 256) (ok : OkT s.1) (hn9 : s.2.2.1 ≤ 900) : f_X11_number (X + 90) ν = some (if s.2.2.1 = s.1 0 0 ∧ (∀ p, p < s.1 0 0 → gdR s.2.2.2.1 p = true) then oI ((EN s.1).findIdx? (fun r => r == dg (dgt s.2.2.2.1) (s.1 0 0))) else -1, ms_I ν (X + 90) 1 0) := by
  have h9 := hν.1
  obtain ⟨t1, t2⟩ := hν.2.2.1
  have hn := ok.1.1
  have hS : Sh X (ms_I ν (X + 90) 1 0) := h9
  have hm : MTn (X + 90) 0 s.1 (ms_I ν (X + 90) 1 0) := mtn_x (fun q g1 g2 => by rw [iI, if_neg (by omega)]) hν.2.1.1
  have hRt : Rt X s.1 s.2.1 (ms_I ν (X + 90) 1 0) := rt_x (fun k hk => by rw [rI, if_neg (by omega)]) (fun q g1 g2 => by rw [iI, if_neg (by omega)]) (by rfl) hν.2.1
  have h91 : mm_I (ms_I ν (X + 90) 1 0) (X + 91) = mm_I ν (X + 91) := by rw [iI, if_neg (by omega)]
  unfold f_X11_number f_X11_number_J104
  rw [if_pos (by rw [mk_90 h9]), rf_90 h9, ob, t1, wf_90 h9, ob, rp_90_12 hS, ob, mr_n0 hS hm, ob]
  by_cases e1 : s.2.2.1 = s.1 0 0
  · rw [if_pos (by rw [e1]), e1]
    rw [e1] at t2
    generalize ms_I ν (X + 90) 1 0 = π at hS hm hRt h91 ⊢
    have hst : ∀ p, p < s.1 0 0 → (∀ q, q < p → dgt s.2.2.2.1 q < 16) → f_X11_number_L27 (X + 90) (nI (s.1 0 0)) π (lN (dg (dgt s.2.2.2.1) p), nI p) = if gdR s.2.2.2.1 p then some (.inl (lN (dg (dgt s.2.2.2.1) (p + 1)), nI (p + 1))) else some (.inr (.inl ())) := by
      intro p hp hd
      have hb := hB p
      have hga : ga_B (X + 91) (nI p) π = some ((nI (s.2.2.2.1 p)).toInt8.toInt32) := by rw [e_gaB (mk_91 hS) (by omega) (by decide), h91, t2 p hp]
      simp only [f_X11_number_L27, f_X11_number_J60, f_X11_number_J87]
      rw [if_neg (by rw [nI_le_i (by omega) (by omega)]; omega), rp_90_0 hS, ob, hga, ob]
      simp only [ob, hga, nI_1, propext (byte_111 _ hb), show (7 : Int32) = nI 7 from rfl, e_in, bz_if]
      unfold gdR
      by_cases q1 : s.2.2.2.1 p = 111
      · have hdp : dgt s.2.2.2.1 p = 15 := if_pos q1
        rw [if_pos q1, decide_eq_true q1, if_neg (by decide), if_pos q1, show (15 : Int32) = nI (dgt s.2.2.2.1 p) by rw [hdp]; rfl, dg_fold (by omega) (by omega) hd]
        rfl
      · rw [if_neg q1, decide_eq_false q1, if_neg q1]
        by_cases q2 : 48 ≤ s.2.2.2.1 p ∧ s.2.2.2.1 p < 56
        · have hdp : dgt s.2.2.2.1 p = s.2.2.2.1 p - 48 := if_neg q1
          rw [if_pos ((byte_48 _ hb).mpr q2), decide_eq_true q2.1, decide_eq_true q2.2, byte_v _ q2.2 q2.1, ← hdp, dg_fold (by omega) (by omega) hd]
          rfl
        · rw [if_neg (fun q => q2 ((byte_48 _ hb).mp q))]
          have : (decide (48 ≤ s.2.2.2.1 p) && decide (s.2.2.2.1 p < 56)) = false := by
            by_cases q3 : 48 ≤ s.2.2.2.1 p
            · rw [decide_eq_true q3, decide_eq_false (fun q4 => q2 ⟨q3, q4⟩)]; rfl
            · rw [decide_eq_false q3]; rfl
          rw [this]; rfl
    have hg16 : ∀ p, gdR s.2.2.2.1 p = true → dgt s.2.2.2.1 p < 16 := by
      intro p hg
      unfold gdR at hg
      unfold dgt
      by_cases q1 : s.2.2.2.1 p = 111
      · rw [if_pos q1]; decide
      · rw [if_neg q1]
        rw [decide_eq_false q1] at hg
        simp at hg
        omega
    have key := whl_e (body := f_X11_number_L27 (X + 90) (nI (s.1 0 0)) π) (s.1 0 0) (fun p (st : Int64 × Int32) => st = (lN (dg (dgt s.2.2.2.1) p), nI p) ∧ ∀ q, q < p → gdR s.2.2.2.1 q = true) (Q := fun r => (r = .inl () ∧ ¬ ∀ p, p < s.1 0 0 → gdR s.2.2.2.1 p = true) ∨ (r = .inr (lN (dg (dgt s.2.2.2.1) (s.1 0 0))) ∧ ∀ p, p < s.1 0 0 → gdR s.2.2.2.1 p = true)) (s0 := ((0 : Int64), (0 : Int32))) ⟨rfl, fun q hq => by omega⟩ ?_ ?_
    · obtain ⟨r, k1, k2⟩ := key
      rw [k1, ob]
      rcases k2 with ⟨k2, k3⟩ | ⟨k2, k3⟩
      · rw [k2, if_neg (fun q => k3 q.2)]; rfl
      · rw [k2, if_pos ⟨rfl, k3⟩]
        show (f_X11_numberOf (X + 90) (lN (dg (dgt s.2.2.2.1) (s.1 0 0))) π).bind _ = _
        have hlt : dg (dgt s.2.2.2.1) (s.1 0 0) < 2 ^ 63 := by
          have e : dg (dgt s.2.2.2.1) (s.1 0 0) = dg (fun p => if p < s.1 0 0 then dgt s.2.2.2.1 p else 0) (s.1 0 0) := dg_x (fun p hp => by rw [if_pos hp])
          have h2 := dg_lt (d := fun p => if p < s.1 0 0 then dgt s.2.2.2.1 p else 0) (fun p => by
            show (if _ then _ else _) < 16
            split
            · exact hg16 p (k3 p (by assumption))
            · decide) (s.1 0 0)
          have h3 : (16 : Nat) ^ s.1 0 0 ≤ 16 ^ 8 := Nat.pow_le_pow_right (by decide) hn
          rw [m16_8] at h3
          omega
        rw [e_numberOfR hS hRt ok hlt, ob]
    · rintro p st hp1 ⟨e2, e3⟩
      subst e2
      rw [hst p hp1 (fun q hq => hg16 q (e3 q hq))]
      cases eg : gdR s.2.2.2.1 p with
      | true =>
        left
        exact ⟨_, rfl, rfl, fun q hq => by
          by_cases e4 : q = p
          · rw [e4]; exact eg
          · exact e3 q (by omega)⟩
      | false =>
        right
        exact ⟨_, rfl, Or.inl ⟨rfl, fun q => by rw [q p hp1] at eg; cases eg⟩⟩
    · rintro st ⟨e2, e3⟩
      subst e2
      refine ⟨.inr (lN (dg (dgt s.2.2.2.1) (s.1 0 0))), ?_, Or.inr ⟨rfl, e3⟩⟩
      simp only [f_X11_number_L27]
      rw [if_pos (nI_le (Nat.le_refl _) (by omega))]
  · rw [if_neg (by rw [nI_eq_i (by omega) (by omega)]; exact e1), if_neg (fun q => e1 q.1)]
theorem num_same {T : Tn} {B : Nat → Nat} (ok : OkT T) : (if (∀ p, p < T 0 0 → gdC T B p = true) then nmb (okc T) (dgt B) (drf T 0 (T 0 0)) 0 else none) = (if (∀ p, p < T 0 0 → gdR B p = true) then (EN T).findIdx? (fun r => r == dg (dgt B) (T 0 0)) else none) := by
  have hn := ok.1.1
  have hg16 : ∀ p, gdR B p = true → dgt B p < 16 := by
    intro p hg
    unfold gdR at hg
    unfold dgt
    by_cases q1 : B p = 111
    · rw [if_pos q1]; decide
    · rw [if_neg q1]
      rw [decide_eq_false q1] at hg
      simp at hg
      omega
  by_cases eR : ∀ p, p < T 0 0 → gdR B p = true
  · rw [if_pos eR]
    have e : dg (dgt B) (T 0 0) = dg (fun p => if p < T 0 0 then dgt B p else 0) (T 0 0) := dg_x (fun p hp => by rw [if_pos hp])
    have hd16 : ∀ p, (fun p => if p < T 0 0 then dgt B p else 0) p < 16 := fun p => by
      show (if _ then _ else _) < 16
      split
      · exact hg16 p (eR p (by assumption))
      · decide
    have hnb : ∀ p, nb (dg (dgt B) (T 0 0)) p = if p < T 0 0 then dgt B p else 0 := fun p => by
      rw [e, nb_dg hd16]
      by_cases q : p < T 0 0
      · rw [if_pos q]
      · rw [if_neg q, if_neg q]
    rw [EN_find ok (fun p hp => by rw [hnb, if_neg (by omega)]), nmb_x (d := nb (dg (dgt B) (T 0 0))) (d' := dgt B) _ _ (fun p hp => by rw [hnb, if_pos (by have := drf_mem.mp hp; omega)])]
    by_cases eC : ∀ p, p < T 0 0 → gdC T B p = true
    · rw [if_pos eC, if_pos]
      intro p hp ha
      have hg := eC p hp
      unfold gdC at hg
      rw [ha] at hg
      have q1 : B p = 111 := by
        by_cases q : B p = 111
        · exact q
        · rw [decide_eq_false q] at hg; cases hg
      rw [hnb, if_pos hp]
      exact if_pos q1
    · rw [if_neg eC]
      have hx : ∃ p, p < T 0 0 ∧ gdC T B p = false := by
        cases ex : ff (fun p => !gdC T B p) (T 0 0) with
        | none => exact absurd (fun p hp => by have := ff_none.mp ex p hp; simpa using this) eC
        | some j => obtain ⟨g1, g2, -⟩ := ff_some.mp ex; exact ⟨j, g1, by simpa using g2⟩
      obtain ⟨p, hp, hg⟩ := hx
      have hr := eR p hp
      unfold gdC at hg
      unfold gdR at hr
      split
      · rename_i hal
        symm
        cases ea : (T 0 7).testBit p with
        | true =>
          have h15 := hal p hp ea
          rw [hnb, if_pos hp] at h15
          have q1 : B p = 111 := by
            by_cases q : B p = 111
            · exact q
            · rw [decide_eq_false q] at hr
              unfold dgt at h15
              rw [if_neg q] at h15
              simp at hr
              omega
          rw [ea, decide_eq_true q1] at hg
          cases hg
        | false =>
          refine nmb_none (fun h8 => ?_) _ _ (drf_mem.mpr ⟨Nat.zero_le _, by omega, ea⟩)
          rw [ea] at hg
          have q1 : B p ≠ 111 := fun q => by
            unfold dgt at h8
            rw [if_pos q] at h8
            omega
          rw [decide_eq_false q1] at hg hr
          cases eo : okc T p (dgt B p) with
          | false => rfl
          | true =>
            have h2 := okc_lt ok (by omega) eo
            have hd : dgt B p = B p - 48 := if_neg q1
            rw [hd] at h2
            simp at hr
            simp at hg
            omega
      · rfl
  · rw [if_neg eR, if_neg]
    intro eC
    apply eR
    intro p hp
    have hg := eC p hp
    unfold gdC at hg
    unfold gdR
    by_cases q1 : B p = 111
    · rw [decide_eq_true q1]; rfl
    · rw [decide_eq_false q1] at hg ⊢
      cases ea : (T 0 7).testBit p with
      | true => rw [ea] at hg; cases hg
      | false =>
        rw [ea] at hg
        simp at hg ⊢
        omega
theorem k_number (h0 : mm_K μ b = (19, L) ∧ mm_I μ b = xs ∧ b < X) (h : IC X i c s μ) (hR : IR X s μ) : ∃ r μ1 μ2, f_X10_number X μ = some (r, μ1) ∧ f_X11_number (X + 90) μ1 = some (r, μ2) ∧ Inv b L xs X (i + 1) μ2 ∧ (mm_K μ1 b = (19, L) ∧ mm_I μ1 b = xs) := by
  have h1 := h.1.1
  obtain ⟨n9, hB, hn1, hby⟩ := h.2.2.1
  have ok := h.2.1.1
  have hx : f_X10_number X μ = some (if s.2.2.1 = s.1 0 0 ∧ (∀ p, p < s.1 0 0 → gdC s.1 s.2.2.2.1 p = true) then oI (nmb (okc s.1) (dgt s.2.2.2.1) (drf s.1 0 (s.1 0 0)) 0) else -1, ms_I μ (X + 1) 1 0) := by
    unfold f_X10_number
    rw [if_pos (by rw [mk_0 h1]), c_number h, ob, rp_0_0 h1, ob, wf_1 h1, ob]
  have hCI : IC X i c (s.1, s.2.1, 0, s.2.2.2.1, s.2.2.2.2) (ms_I μ (X + 1) 1 0) := by
    refine IC_tp (by rfl) (by rfl) (fun q _ g1 _ _ => by rw [iI, if_neg g1]) (by rw [iI, if_neg (by omega)]) (fun _ _ _ => by rfl) ?_ h
    exact ⟨by omega, hB, by rw [rI, if_pos ⟨rfl, rfl⟩]; rfl, fun j hj => by omega⟩
  refine both h0 hR hx (IC_up hCI) (ChC_I (by unfold inM; omega) (by omega)) (fun hν => ⟨ms_I (ms_I μ (X + 1) 1 0) (X + 90) 1 0, ?_, ?_, ChM_I (by unfold inM; omega)⟩)
  · rw [r_number hν hB ok n9]
    congr 2
    have hs := num_same (B := s.2.2.2.1) ok
    by_cases e1 : s.2.2.1 = s.1 0 0
    · simp only [e1, true_and]
      have hl : ∀ (p : Prop) [Decidable p] (o : Option Nat), (if p then oI o else -1) = oI (if p then o else none) := fun p _ o => by split <;> rfl
      rw [hl, hl, hs]
    · rw [if_neg (fun q => e1 q.1), if_neg (fun q => e1 q.1)]
  · refine IR_tp hν.1 (fun k hk => by rw [rI, if_neg (fun q => hk q.2)]) (fun q _ g1 _ => by rw [iI, if_neg g1]) (fun _ _ => by rfl) ?_ hν
    exact ⟨by rw [rI, if_pos ⟨rfl, rfl⟩]; rfl, fun j hj => by omega⟩
end CALLS
