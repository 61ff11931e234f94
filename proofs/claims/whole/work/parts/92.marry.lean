/-! ===== marry, number ===== -/
theorem nmb_x {ok : Nat → Nat → Bool} {d d' : Nat → Nat} : ∀ (ds : List Nat) (u : Nat), (∀ p ∈ ds, d p = d' p) → nmb ok d ds u = nmb ok d' ds u := by
  intro ds
  induction ds with
  | nil => intro u _; rfl
  | cons p ds ih =>
    intro u h
    unfold nmb
    rw [h p List.mem_cons_self, ih _ (fun q hq => h q (List.mem_cons_of_mem _ hq))]
theorem nmb_none {ok : Nat → Nat → Bool} {d : Nat → Nat} {p : Nat} (h : d p < 8 → ok p (d p) = false) : ∀ (ds : List Nat) (u : Nat), p ∈ ds → nmb ok d ds u = none := by
  intro ds
  induction ds with
  | nil => intro u hp; cases hp
  | cons q ds ih =>
    intro u hp
    unfold nmb
    rcases List.mem_cons.mp hp with e | e
    · subst e
      rw [if_neg]
      rintro ⟨h1, h2⟩
      rw [h h1] at h2
      cases h2
    · rw [ih _ e]
      split <;> rfl
theorem e_numberOfR {X t t0 : Nat} {T : Tn} {μ : Mm} (h : Sh X μ) (hR : Rt X T t0 μ) (ok : OkT T) (ht : t < 2 ^ 63) : f_X11_numberOf (X + 90) (lN t) μ = some (oI ((EN T).findIdx? (fun r => r == t))) := by
  have hl := EN_len ok
  unfold f_X11_numberOf
  rw [if_pos (by rw [mk_90 h])]
  have hst : ∀ k (hk : k < (EN T).length), f_X11_numberOf_L2 (X + 90) (lN t) μ (nI k) = if (rwT T k == t) then some (.inr (.inl (nI k))) else some (.inl (nI (k + 1))) := by
    intro k hk
    simp only [f_X11_numberOf_L2]
    rw [rf_90 h, ob, hR.2.2.1, if_neg (by rw [nI_le_i (by omega) (by omega)]; omega), rp_90_34 h, ob, r_row h hR ok hk, ob, ob, nI_1]
    have hlt := EN_lt ok (rwT_mem hk)
    simp only [propext (lg_cmp_eq (lN (rwT T k)) (lN t)), propext (pk_lEQ (a := rwT T k) (b := t) (by omega) ht)]
    by_cases e : rwT T k = t
    · rw [if_pos e, if_pos (by simpa using e)]
    · rw [if_neg e, if_neg (by simpa using e)]
  refine (whl_fb (EN T).length (fun k => nI k) (fun k => rwT T k == t) (fun k => .inl (nI k)) (b := .inr ()) rfl (fun k hk hp => ?_) (fun k hk hp => ?_) ?_).trans ?_
  · rw [hst k hk, hp]; rfl
  · rw [hst k hk, hp]; rfl
  · simp only [f_X11_numberOf_L2]
    rw [rf_90 h, ob, hR.2.2.1, if_pos (nI_le (Nat.le_refl _) (by omega))]
  · rw [ff_fi (P := fun r => r == t) (l := EN T) (fun k hk => by rw [rwT_e hk])]
    cases (EN T).findIdx? (fun r => r == t) with
    | none => rfl
    | some k => rfl
theorem l15_sh {p : Nat} (hp : p < 8) : (15 : Int64) <<< (((4 : Int32) * nI p).toInt64 &&& 63) = lN (15 * 16 ^ p) := by
  have e4 : (4 : Int32) * nI p = nI (4 * p) := pk_mul 4 p
  have hb : (2 : Nat) ^ (4 * p) ≤ 2 ^ 28 := Nat.pow_le_pow_right (by decide) (by omega)
  rw [e4, show (15 : Int64) = lN 15 from rfl, l_shl (by omega) (by omega), p16]
theorem lN_m1 : (-1 : Int64) = lN (2 ^ 64 - 1) := by decide
theorem nb_full64 : ∀ p, p < 16 → nb (2 ^ 64 - 1) p = 15 := by decide +kernel
/-- two digits exchanged -/
theorem l_swap {r a b : Nat} (hr : r < 2 ^ 32) (ha : a < 8) (hb : b < 8) (hab : a ≠ b) : ((((lN r &&& (((15 : Int64) <<< (((4 : Int32) * nI a).toInt64 &&& 63)) ^^^ (-1 : Int64))) &&& (((15 : Int64) <<< (((4 : Int32) * nI b).toInt64 &&& 63)) ^^^ (-1 : Int64))) ||| ((lN r >>> (((4 : Int32) * nI b).toInt64 &&& 63) &&& (15 : Int64)) <<< (((4 : Int32) * nI a).toInt64 &&& 63))) ||| ((lN r >>> (((4 : Int32) * nI a).toInt64 &&& 63) &&& (15 : Int64)) <<< (((4 : Int32) * nI b).toInt64 &&& 63))) = lN (dg (u1 (u1 (nb r) a (nb r b)) b (nb r a)) 8) := by
  have e4 : ∀ p, (4 : Int32) * nI p = nI (4 * p) := fun p => pk_mul 4 p
  have hsr : ∀ p, p < 8 → lN r >>> (((4 : Int32) * nI p).toInt64 &&& 63) &&& (15 : Int64) = lN (nb r p) := fun p hp => by
    have h1 : r / 2 ^ (4 * p) &&& 15 = nb r p := by rw [p16]; exact Nat.and_two_pow_sub_one_eq_mod _ 4
    rw [e4, l_shr (by omega) (by omega), show (15 : Int64) = lN 15 from rfl, lN_and, h1]
  have hsl : ∀ q p, q < 16 → p < 8 → lN q <<< (((4 : Int32) * nI p).toInt64 &&& 63) = lN (q * 16 ^ p) := fun q p hq hp => by
    have hb : (2 : Nat) ^ (4 * p) ≤ 2 ^ 28 := Nat.pow_le_pow_right (by decide) (by omega)
    have h1 : q * 2 ^ (4 * p) < 2 ^ 64 := by
      have : q * 2 ^ (4 * p) ≤ 15 * 2 ^ 28 := Nat.mul_le_mul (by omega) hb
      omega
    rw [e4, l_shl (by omega) h1, p16]
  rw [hsr a ha, hsr b hb, hsl _ a (nb_lt r b) ha, hsl _ b (nb_lt r a) hb, l15_sh ha, l15_sh hb, lN_m1, lN_xor, lN_xor, lN_and, lN_and, lN_or, lN_or]
  congr 1
  have hu : ∀ p', u1 (u1 (nb r) a (nb r b)) b (nb r a) p' < 16 := u1_lt (u1_lt (nb_lt r) (nb_lt r b)) (nb_lt r a)
  have hsm : ∀ q p, q < 16 → p < 8 → q * 16 ^ p < 2 ^ 32 := fun q p hq hp => by
    have hb : (2 : Nat) ^ (4 * p) ≤ 2 ^ 28 := Nat.pow_le_pow_right (by decide) (by omega)
    rw [← p16]
    have : q * 2 ^ (4 * p) ≤ 15 * 2 ^ 28 := Nat.mul_le_mul (by omega) hb
    omega
  apply nb_inj (n := 8)
  · rw [m16_8]
    refine Nat.or_lt_two_pow (Nat.or_lt_two_pow ?_ (hsm _ _ (nb_lt _ _) ha)) (hsm _ _ (nb_lt _ _) hb)
    exact Nat.lt_of_le_of_lt Nat.and_le_left (Nat.lt_of_le_of_lt Nat.and_le_left hr)
  · exact dg_lt hu 8
  · intro p' hp'
    rw [nb_dg hu, if_pos hp', nb_or, nb_or, nb_and, nb_and, nb_xor, nb_xor, nb_one (by decide), nb_one (by decide), nb_one (nb_lt _ _), nb_one (nb_lt _ _), nb_full64 p' (by omega)]
    by_cases ea : p' = a
    · subst ea
      rw [if_pos rfl, if_pos rfl, if_neg hab, if_neg hab, u1_n _ _ hab, u1_s, Nat.xor_self, Nat.and_zero, Nat.zero_and, Nat.zero_or, Nat.or_zero]
    · by_cases eb : p' = b
      · subst eb
        rw [if_neg ea, if_neg ea, if_pos rfl, if_pos rfl, u1_s, Nat.xor_self, Nat.and_zero, Nat.zero_or, Nat.zero_or]
      · rw [if_neg ea, if_neg ea, if_neg eb, if_neg eb, u1_n _ _ eb, u1_n _ _ ea, Nat.zero_xor, and15 (nb_lt _ _), and15 (nb_lt _ _), Nat.or_zero, Nat.or_zero]
section CALLS
variable {b L : Nat} {xs : Nat → Int32} {X i c : Nat} {s : Sv} {μ : Mm}
theorem k_marry (a1 a2 : Int32) (h : IC X i c s μ) (hR : IR X s μ) : ∃ r, f_X10_marry X a1 a2 μ = some r ∧ f_X11_marry (X + 90) a1 a2 μ = some r := by
  have h1 := h.1.1
  have hw := cb_w h.1
  have hp := cb_p h.1
  obtain ⟨ok, ht, hct, htu, -, h15⟩ := h.2.1
  have hm := hR.2.1.1
  have hn := ok.1.1
  have rg := dr_Rg ok ht
  unfold f_X10_marry f_X11_marry
  simp only [kt_0 h1, kt_90 h1, if_true, hp, ob, e_isPerson' hw hct ok, r_isPerson h1 hm ok, bz_if]
  by_cases e1 : inR a1 (s.1 0 0)
  · obtain ⟨a, ha, rfl⟩ := inR_ex e1 (by omega)
    rw [if_pos e1, if_pos e1]
    by_cases e2 : inR a2 (s.1 0 0)
    · obtain ⟨b', hb, rfl⟩ := inR_ex e2 (by omega)
      rw [if_pos e2, if_pos e2]
      by_cases e3 : a = b'
      · have : nI a = nI b' := by rw [e3]
        rw [if_pos this, if_pos this]; exact ⟨_, rfl, rfl⟩
      · have : ¬ nI a = nI b' := by rw [nI_eq_i (by omega) (by omega)]; exact e3
        rw [if_neg this, if_neg this]
        simp only [e_isAlone hw hct ok (by omega : a < 32), e_isAlone hw hct ok (by omega : b' < 32), e_isAloneR h1 hm ok (by omega : a < 32), e_isAloneR h1 hm ok (by omega : b' < 32), ob, nI_b0]
        cases ea : (s.1 0 7).testBit a with
        | true => rw [if_neg (by decide), if_neg (by decide)]; exact ⟨_, rfl, rfl⟩
        | false =>
          rw [if_pos rfl, if_pos rfl]
          cases eb : (s.1 0 7).testBit b' with
          | true => rw [if_neg (by decide), if_neg (by decide)]; exact ⟨_, rfl, rfl⟩
          | false =>
            rw [if_pos rfl, if_pos rfl]
            have da := (rg.2.2.1 a ha ea).1
            have db := (rg.2.2.1 b' hb eb).1
            have hda : dI (dr s.1 s.2.1 a) = nI (dr s.1 s.2.1 a) := if_neg (by omega)
            have hdb : dI (dr s.1 s.2.1 b') = nI (dr s.1 s.2.1 b') := if_neg (by omega)
            have hnr : ∀ p, p < s.1 0 0 → nb (rwT s.1 s.2.1) p = dr s.1 s.2.1 p := fun p hp => (if_pos hp).symm
            have hrlt := EN_lt ok (rwT_mem ht)
            have hcr := cr_lt s.1 (rwT s.1 s.2.1)
            have hd16 : ∀ p', u1 (nb (cr s.1 (rwT s.1 s.2.1))) a (dr s.1 s.2.1 b') p' < 16 := u1_lt (nb_lt _) (by omega)
            have hd16' : ∀ p', u1 (nb (dg (u1 (nb (cr s.1 (rwT s.1 s.2.1))) a (dr s.1 s.2.1 b')) 8)) b' (dr s.1 s.2.1 a) p' < 16 := u1_lt (nb_lt _) (by omega)
            have hw1 : dg (u1 (nb (cr s.1 (rwT s.1 s.2.1))) a (dr s.1 s.2.1 b')) 8 < 2 ^ 32 := by rw [← m16_8]; exact dg_lt hd16 8
            have hw2 : dg (u1 (nb (dg (u1 (nb (cr s.1 (rwT s.1 s.2.1))) a (dr s.1 s.2.1 b')) 8)) b' (dr s.1 s.2.1 a)) 8 < 2 ^ 32 := by rw [← m16_8]; exact dg_lt hd16' 8
            have hdig : ∀ p, p < s.1 0 0 → nb (dg (u1 (nb (dg (u1 (nb (cr s.1 (rwT s.1 s.2.1))) a (dr s.1 s.2.1 b')) 8)) b' (dr s.1 s.2.1 a)) 8) p = u1 (u1 (nb (rwT s.1 s.2.1)) a (nb (rwT s.1 s.2.1) b')) b' (nb (rwT s.1 s.2.1) a) p := by
              intro p hp
              rw [nb_dg hd16', if_pos (by omega)]
              by_cases q1 : p = b'
              · subst q1; rw [u1_s, u1_s, hnr a ha]
              · rw [u1_n _ _ q1, u1_n _ _ q1, nb_dg hd16, if_pos (by omega)]
                by_cases q2 : p = a
                · subst q2; rw [u1_s, u1_s, hnr b' hb]
                · rw [u1_n _ _ q2, u1_n _ _ q2, dr_nb (by omega), hnr p hp]
            have hS16 : ∀ p', u1 (u1 (nb (rwT s.1 s.2.1)) a (nb (rwT s.1 s.2.1) b')) b' (nb (rwT s.1 s.2.1) a) p' < 16 := u1_lt (u1_lt (nb_lt _) (nb_lt _ _)) (nb_lt _ _)
            have ht63 : dg (u1 (u1 (nb (rwT s.1 s.2.1)) a (nb (rwT s.1 s.2.1) b')) b' (nb (rwT s.1 s.2.1) a)) 8 < 2 ^ 63 := by
              have := dg_lt hS16 8
              rw [m16_8] at this
              omega
            obtain ⟨d1, d2, d3, d4⟩ := EN_dig ok (rwT_mem ht)
            refine ⟨oI (nmb (okc s.1) (u1 (u1 (nb (rwT s.1 s.2.1)) a (nb (rwT s.1 s.2.1) b')) b' (nb (rwT s.1 s.2.1) a)) (drf s.1 0 (s.1 0 0)) 0), ?_, ?_⟩
            · rw [rf_0 h1, ob, ob, h15, e_dreamOf hcr (by omega), ob, dr_nb (by omega), hdb, e_withDream hcr (by omega) (by omega), ob, ob, e_dreamOf hcr (by omega), ob, dr_nb (by omega), hda, e_withDream hw1 (by omega) (by omega), ob, tc_p8 hw, ob]
              have h8 : ∀ p ∈ drf s.1 0 (s.1 0 0), nb (dg (u1 (nb (dg (u1 (nb (cr s.1 (rwT s.1 s.2.1))) a (dr s.1 s.2.1 b')) 8)) b' (dr s.1 s.2.1 a)) 8) p < 8 ∨ nb (dg (u1 (nb (dg (u1 (nb (cr s.1 (rwT s.1 s.2.1))) a (dr s.1 s.2.1 b')) 8)) b' (dr s.1 s.2.1 a)) 8) p = 15 := by
                intro p hp
                have hpm := drf_mem.mp hp
                rw [hdig p (by omega)]
                left
                by_cases q1 : p = b'
                · subst q1; rw [u1_s, hnr a ha]; omega
                · rw [u1_n _ _ q1]
                  by_cases q2 : p = a
                  · subst q2; rw [u1_s, hnr b' hb]; omega
                  · rw [u1_n _ _ q2]; exact (d3 p (by omega) hpm.2.2).2
              rw [e_numberOf hw ok htu hw2 h8, ob, nmb_x _ _ (fun p hp => hdig p (by have := drf_mem.mp hp; omega))]
            · rw [rp_90_34 h1, ob, rf_90 h1, ob, hR.2.1.2.2.2.1, r_row h1 hR.2.1 ok ht, ob, l_swap hrlt (by omega) (by omega) e3, e_numberOfR h1 hR.2.1 ok ht63, ob, EN_find ok (fun p hp9 => ?_), if_pos (fun p hp1 hal => ?_)]
              · rw [nmb_x _ _ (fun p hp => by have := drf_mem.mp hp; rw [nb_dg hS16, if_pos (by omega)])]
              · have q1 : p ≠ b' := fun q => by rw [q, eb] at hal; cases hal
                have q2 : p ≠ a := fun q => by rw [q, ea] at hal; cases hal
                rw [nb_dg hS16, if_pos (by omega), u1_n _ _ q1, u1_n _ _ q2]
                exact d1 p hp1 hal
              · rw [nb_dg hS16]
                by_cases q : p < 8
                · rw [if_pos q, u1_n _ _ (by omega), u1_n _ _ (by omega)]; exact d2 p hp9
                · rw [if_neg q]
    · rw [if_neg e2, if_neg e2]; exact ⟨_, rfl, rfl⟩
  · rw [if_neg e1, if_neg e1]; exact ⟨_, rfl, rfl⟩
end CALLS
