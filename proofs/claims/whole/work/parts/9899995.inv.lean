/-! ===== the start: what holds between calls holds ===== -/
section BEG
variable {b L : Nat} {xs : Nat → Int32} {S : Nat → Nat} {X : Nat}
theorem b_both (hb : b < X) : ∃ ρ ν, f_X10_init X (mn_C (m_0 b L xs S X) 11 0) = some ρ ∧ mm_N ρ = X + 90 ∧ f_X11_init (X + 90) (mn_C ρ 12 0) = some ν ∧ Inv b L xs X 0 ν ∧ mm_S ν = S := by
  obtain ⟨ρ, c1, ⟨c2, c3, c4, c5, c6, c7⟩, c8, c9, c10, c11, c12, c13, c14, c15, c16, c17⟩ := b_class (L := L) (xs := xs) (S := S) hb
  have l0 : ∀ j k, 90 ≤ j → lkp 96 j k = none := fun j k hj => lkp_n (fun e he => Nat.lt_of_lt_of_le ((by decide +kernel : ∀ e ∈ pw.take 96, e.1 < 90) e he) hj) k
  have i0 : ∀ j k, 90 ≤ j → lki 1 j k = 0 := fun j k hj => lki_n (fun e he => Nat.lt_of_lt_of_le ((by decide +kernel : ∀ e ∈ iw.take 1, e.1 < 90) e he) hj) k
  have m1 : mn_C ρ 12 0 = Mx X 90 ρ 91 2740 96 1 := b_m1 c3 c4 (fun a ha => by
    funext k
    rw [show a = X + (a - X) by omega, c17 _ _ (by omega), i0 _ _ (by omega)]) (fun a ha => by
    funext k
    rw [show a = X + (a - X) by omega, c8, if_neg (by omega), l0 _ _ (by omega)]
    rfl) (fun a ha => c9 a (by omega))
  have kA : ∀ q ∈ k_tab, q.1 < 135 ∧ kt q.1 = (q.2.1, q.2.2) := by decide +kernel
  have pB : ∀ q ∈ p_tab, (¬ ((q.1 = 58 ∧ q.2.1 = 7) ∨ (q.1 = 66 ∧ q.2.1 = 5))) ∧ (if q.1 < 90 then lkp 96 q.1 q.2.1 else lkp 140 q.1 q.2.1) = some q.2.2 := by decide +kernel
  have K0 : ∀ j, j < 135 → mm_K (Mx X 90 ρ 135 22622 140 2) (X + j) = kt j := fun j hj => by
    by_cases y : 90 ≤ j
    · exact x_KK ⟨y, hj⟩
    · show (if X + 90 ≤ X + j ∧ X + j < X + 135 then kt (X + j - X) else mm_K ρ (X + j)) = _
      rw [if_neg (by omega), c5 j (by omega)]
  have Pl : ∀ j, j < 90 → mm_P (Mx X 90 ρ 135 22622 140 2) (X + j) = mm_P ρ (X + j) := fun j hj => by
    show (if X + 90 ≤ X + j then _ else mm_P ρ (X + j)) = _
    rw [if_neg (by omega)]
  have hs : Sh X (Mx X 90 ρ 135 22622 140 2) := by
    refine ⟨fun q hq => ?_, fun q hq => ?_⟩
    · obtain ⟨h1, h2⟩ := kA q hq
      rw [K0 _ h1, h2]
    · obtain ⟨h1, h2⟩ := pB q hq
      by_cases y : q.1 < 90
      · rw [if_pos y] at h2
        rw [Pl _ y, c8, if_neg h1, h2]
        rfl
      · rw [if_neg y] at h2
        rw [x_PP (by omega), h2]
        rfl
  obtain ⟨ν4, e1, e2, e3, e4, e5, e6, e7⟩ := e_begin hs
  have eP := p_X11_begin e1
  have eL := l_X11_begin e1
  have eT := t_X11_begin e1
  have hs4 : Sh X ν4 := sh_x eP eT hs
  obtain ⟨ν, f1, f2, f3, f4, f5, f6, f7, f8, f9, f10⟩ := e_settR hs4 ok_D0 e2
  have hT : tl ν = tl (Mx X 90 ρ 135 22622 140 2) := f3.trans eT
  have hP : mm_P ν = mm_P (Mx X 90 ρ 135 22622 140 2) := f2.trans eP
  have hS : Sh X ν := sh_x hP hT hs
  have Kν : ∀ j, j < 135 → mm_K ν (X + j) = kt j := fun j hj => by rw [tl_K hT]; exact K0 j hj
  have Pν : ∀ j k, j < 90 → mm_P ν (X + j) k = if (j = 58 ∧ k = 7) ∨ (j = 66 ∧ k = 5) then some (X + 21) else (lkp 96 j k).map (fun v => X + v) := fun j k hj => by rw [hP, Pl j hj, c8]
  have Iν : ∀ q, q < X + 90 → mm_I ν q = mm_I ρ q := fun q hq => by
    rw [f9 q (by omega) (by omega) (by omega), e4 q (by omega) (by omega) (by omega) (by omega)]
    show (if X + 90 ≤ q then _ else mm_I ρ q) = _
    rw [if_neg (by omega)]
  have Jν : ∀ k, k ≠ 31 → k ≠ 32 → k ≠ 33 → k ≠ 46 → k ≠ 47 → k ≠ 48 → k ≠ 64 → mm_I ν (X + 90) k = lki 2 90 k := fun k h0 h1 h2 h3 h4 h5 h6 => by
    rw [f8 k h1 h2 h3 h4 h5 h6, e5 k h0, x_II (by omega)]
  have Nν : mm_N ν = X + 135 := tl_N hT
  have Zν : mm_Z ν = 22622 := tl_Z hT
  have pX : ∀ k v, lkp 96 0 k = some v → mm_P ν X k = some (X + v) := fun k v h => by
    have := Pν 0 k (by omega)
    rw [if_neg (by omega), h] at this
    exact this
  refine ⟨ρ, ν, c1, c3, ?_, ⟨⟨?_, ?_, hb⟩, X + 21, s_0, ?_, ?_⟩, ?_⟩
  · rw [m1, s_X11, e1, ob, f1, ob]
  · rw [tl_K hT]
    show (if X + 90 ≤ b ∧ b < X + 135 then _ else mm_K ρ b) = _
    rw [if_neg (by omega)]
    exact c6
  · rw [Iν b (by omega)]
    exact c7
  · refine ⟨⟨hS, Or.inl ⟨rfl, pX 14 39 (by decide +kernel)⟩, pX 13 21 (by decide +kernel), ?_⟩, ⟨ok_D0, en_0, ctn_x (fun q _ _ => Iν q (by omega)) c10, tuP_x (fun q _ _ => Iν q (by omega)) c11, ?_, ?_⟩, ⟨Nat.zero_le _, fun i => show 0 < 256 by decide, ?_, fun i hi => absurd hi (Nat.not_lt_zero _)⟩, ⟨?_, ?_⟩, ⟨okA_0 _, ⟨?_, ?_, ?_⟩, fun i hi => absurd hi (Nat.not_lt_zero _), fun i hi => absurd hi (Nat.not_lt_zero _)⟩, ⟨fun j hj => absurd (show false = true from hj) (by decide), ⟨?_, fun h => absurd h (by decide)⟩, ⟨?_, fun h => absurd h (by decide)⟩, ⟨?_, fun h => absurd h (by decide)⟩, ⟨?_, fun h => absurd h (by decide)⟩⟩, ?_⟩
    · rw [Pν 66 5 (by omega), if_pos (by omega)]
    · obtain ⟨s1, s2⟩ := c12
      unfold SpT
      rw [Pν 58 7 (by omega), if_pos (by omega), Iν (X + 59) (by omega), Iν (X + 60) (by omega), Iν (X + 61) (by omega), Iν (X + 64) (by omega), Iν (X + 65) (by omega)]
      exact ⟨rfl, s2⟩
    · rw [Iν X (by omega)]; exact c13
    · rw [Iν (X + 1) (by omega), c17 1 1 (by omega)]
      show lki 1 1 1 = nI 0
      decide +kernel
    · rw [Iν (X + 57) (by omega), c17 57 3 (by omega)]
      show lki 1 57 3 = 0
      decide +kernel
    · rw [Iν (X + 57) (by omega), c17 57 4 (by omega)]
      show lki 1 57 4 = -1
      decide +kernel
    · rw [Iν (X + 4) (by omega), c14.1]; rfl
    · rw [Iν (X + 4) (by omega), c14.2.1]; rfl
    · rw [Iν (X + 4) (by omega), c14.2.2]; rfl
    · rw [Iν (X + 13) (by omega), c16.1]; rfl
    · rw [Iν (X + 84) (by omega), c16.2.1]; rfl
    · rw [Iν (X + 86) (by omega), c16.2.2.1]; rfl
    · rw [Iν (X + 88) (by omega), c16.2.2.2]; rfl
    · have l67 : ∀ f, f < 12 → lkp 96 67 f = some (68 + f) := by decide +kernel
      have k68 : ∀ f, f < 12 → kt (68 + f) = (21, 0) := by decide +kernel
      refine ⟨X + 82, X + 83, 0, 0, 0, fun f => X + 68 + f, fun _ => 0, false, ⟨?_, ?_, ?_, ?_, by omega, by omega, Or.inl rfl, Or.inl rfl, by omega, by omega⟩, fun f hf => ⟨?_, ?_, Nat.zero_le _, Or.inl rfl, show X + 68 + f < mm_N ν by omega⟩, fun f g _ _ h => ?_, ⟨?_, ?_, ?_, Or.inl rfl, by decide⟩, fun h => absurd rfl h, fun f hf => ?_, fun h => absurd h (by decide), by omega, by omega, by omega⟩
      · rw [Pν 66 6 (by omega), if_neg (by omega), show lkp 96 66 6 = some 82 by decide +kernel]; rfl
      · rw [Pν 66 7 (by omega), if_neg (by omega), show lkp 96 66 7 = some 83 by decide +kernel]; rfl
      · rw [Kν 82 (by omega)]; rfl
      · rw [Kν 83 (by omega)]; rfl
      · rw [Pν 67 f (by omega), if_neg (by omega), l67 f hf]
        show some (X + (68 + f)) = some (X + 68 + f)
        rw [Nat.add_assoc]
      · show mm_K ν (X + 68 + f) = _
        rw [Nat.add_assoc, Kν _ (by omega), k68 f hf]
      · have h : X + 68 + f = X + 68 + g := h
        omega
      · rw [Iν (X + 66) (by omega), c15.1]; rfl
      · rw [Iν (X + 66) (by omega), c15.2.1]; rfl
      · rw [Iν (X + 66) (by omega), c15.2.2]; rfl
      · rw [Nat.zero_testBit] at hf; cases hf
  · refine ⟨hS, ⟨f4, ?_, f5.1, ?_, ?_, f7⟩, ⟨?_, fun i hi => absurd hi (Nat.not_lt_zero _)⟩, ⟨?_, ?_⟩, ⟨⟨?_, ?_, ?_⟩, fun i hi => absurd hi (Nat.not_lt_zero _), fun i hi => absurd hi (Nat.not_lt_zero _)⟩, ⟨?_, fun h => absurd h (by decide)⟩, fun j hj => ⟨?_, fun h => absurd (show false = true from h) (by decide)⟩⟩
    · rw [Jν 30 (by omega) (by omega) (by omega) (by omega) (by omega) (by omega) (by omega)]
      show lki 2 90 30 = nI 0
      decide +kernel
    · rw [f5.2.1]; rfl
    · rw [Jν 37 (by omega) (by omega) (by omega) (by omega) (by omega) (by omega) (by omega)]
      show lki 2 90 37 = 0
      decide +kernel
    · rw [Jν 1 (by omega) (by omega) (by omega) (by omega) (by omega) (by omega) (by omega)]
      show lki 2 90 1 = nI 0
      decide +kernel
    · rw [Jν 8 (by omega) (by omega) (by omega) (by omega) (by omega) (by omega) (by omega)]
      show lki 2 90 8 = 0
      decide +kernel
    · rw [Jν 9 (by omega) (by omega) (by omega) (by omega) (by omega) (by omega) (by omega)]
      show lki 2 90 9 = -1
      decide +kernel
    · rw [f5.2.2.1]; rfl
    · rw [f5.2.2.2.1]; rfl
    · rw [f5.2.2.2.2.1]; rfl
    · rw [f5.2.2.2.2.2]; rfl
    · rw [f6 j hj]; rfl
  · rw [tl_S hT]
    exact c2
theorem b_law (hL : L ≤ 3072) (hb : b < X) (hS : ∀ i j, i < 14 → j < 14 → S i = S j → i = j) : ∃ r, f_L_law b (m_0 b L xs S X) = some r ∧ mm_N r.2 ≤ X + 600000 ∧ mm_Z r.2 ≤ 7302250 := by
  obtain ⟨ρ, ν, h1, h2, h3, h4, h5⟩ := b_both (L := L) (xs := xs) (S := S) hb
  obtain ⟨r, k1, k2, k3⟩ := l_loop hL (fun i j hi hj e => hS i j hi hj (by rw [← h5]; exact e)) h4
  refine ⟨((1 : Int32), r), ?_, k2, k3⟩
  unfold f_L_law
  have n1 : nw_O 11 (m_0 b L xs S X) = some (X, mn_C (m_0 b L xs S X) 11 0) := rfl
  have n2 : nw_O 12 ρ = some (X + 90, mn_C ρ 12 0) := by
    unfold nw_O
    rw [h2]
  rw [n1, ob, h1, ob, n2, ob, h3, ob, k1, ob]
end BEG
