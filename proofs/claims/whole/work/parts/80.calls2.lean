/-! ===== end, feed, turn ===== -/
theorem cb_x {X c : Nat} {μ μ' : Mm} (hP : mm_P μ' = mm_P μ) (ht : tl μ' = tl μ) (h : Cb X c μ) : Cb X c μ' := by
  unfold Cb at h ⊢
  show Shp X (mm_K μ') (mm_P μ') ∧ _
  rw [hP, tl_K ht]
  exact h
theorem sh_x {X : Nat} {μ μ' : Mm} (hP : mm_P μ' = mm_P μ) (ht : tl μ' = tl μ) (h : Sh X μ) : Sh X μ' := by
  show Shp X (mm_K μ') (mm_P μ')
  rw [hP, tl_K ht]
  exact h
/-- only the tape's cells have changed -/
theorem IC_tp {X i c n' : Nat} {B' : Nat → Nat} {s : Sv} {μ μ' : Mm} (hP : mm_P μ' = mm_P μ) (ht : tl μ' = tl μ) (hI : ∀ q, ¬ scr X q → q ≠ X + 1 → q ≠ X + 2 → q ≠ X → mm_I μ' q = mm_I μ q) (h15 : mm_I μ' X 15 = mm_I μ X 15) (hL : ∀ q, q ≠ X + 3 → q ≠ X + 20 → mm_L μ' q = mm_L μ q) (hp : Cp X n' B' μ') (h : IC X i c s μ) : IC X i c (s.1, s.2.1, n', B', s.2.2.2.2) μ' := by
  obtain ⟨h1, h2, h3, h4, ⟨h5a, h5⟩, ⟨h6a, h6⟩, h7⟩ := h
  have hi : ∀ q, (∃ k, q = X + k ∧ k ≠ 0 ∧ k ≠ 1 ∧ k ≠ 2 ∧ k ≠ 3 ∧ k ≠ 16 ∧ k ≠ 17 ∧ k ≠ 18 ∧ k ≠ 19 ∧ k ≠ 58 ∧ k ≠ 62 ∧ k ≠ 63) → mm_I μ' q = mm_I μ q := fun q ⟨k, e, hk⟩ => by
    subst e
    exact hI _ (by unfold scr; omega) (by omega) (by omega) (by omega)
  have hc := h1.2.1
  refine ⟨cb_x hP ht h1, ?_, hp, cf_x (hi _ ⟨57, rfl, by omega⟩) h4, ⟨h5a, ca_x (fun q g1 g2 => hi q ⟨q - X, by omega, by omega⟩) h5⟩, ⟨h6a, cr_x (fun q g => hi q ⟨q - X, by omega, by omega⟩) h6⟩, cc_x hP ht (fun k _ _ => by rw [hi (X + 66) ⟨66, rfl, by omega⟩]) (fun q g => hi q ⟨q - X, by omega, by omega⟩) (fun q g => hL q (by omega) (by omega)) h7⟩
  obtain ⟨g1, g2, g3, g4, g5, g6⟩ := h2
  exact ⟨g1, g2, ctn_x (fun q _ _ => hi q ⟨q - X, by omega, by omega⟩) g3, tuP_x (fun q _ _ => hi q ⟨q - X, by omega, by omega⟩) g4, spT_x hP (fun q _ => hi q ⟨q - X, by omega, by omega⟩) g5, by rw [h15]; exact g6⟩
/-- the reference: what stays where only some fields of its own object, and cells of no weight, change -/
def scM (X q : Nat) : Prop := q = X + 93 ∨ q = X + 111 ∨ q = X + 112 ∨ q = X + 113 ∨ q = X + 114 ∨ q = X + 115 ∨ q = X + 124 ∨ q = X + 125 ∨ q = X + 126 ∨ q = X + 127 ∨ q = X + 128 ∨ q = X + 129
def fdM (k : Nat) : Prop := k = 1 ∨ k = 8 ∨ k = 9 ∨ k = 30 ∨ k = 32 ∨ k = 33 ∨ k = 37 ∨ k = 46 ∨ k = 47 ∨ k = 48 ∨ k = 64 ∨ k = 65 ∨ k = 66
theorem rt_x {X t : Nat} {T : Tn} {μ μ' : Mm} (hf : ∀ k, k = 30 ∨ k = 32 ∨ k = 33 ∨ k = 37 → mm_I μ' (X + 90) k = mm_I μ (X + 90) k) (hI : ∀ q, X + 92 ≤ q → q < X + 110 → mm_I μ' q = mm_I μ q) (hL : mm_L μ' (X + 110) = mm_L μ (X + 110)) (h : Rt X T t μ) : Rt X T t μ' := by
  unfold Rt at h ⊢
  rw [hf 30 (by omega), hf 32 (by omega), hf 33 (by omega), hf 37 (by omega), hL]
  exact ⟨mtn_x (fun q h1 h2 => hI q (by omega) (by omega)) h.1, h.2⟩
theorem ra_x {X : Nat} {A : Nat → Nat → Nat} {μ μ' : Mm} (hf : ∀ k, k = 46 ∨ k = 47 ∨ k = 48 → mm_I μ' (X + 90) k = mm_I μ (X + 90) k) (hI : ∀ q, X + 116 ≤ q → q < X + 124 → mm_I μ' q = mm_I μ q) (h : Ra X A μ) : Ra X A μ' := by
  unfold Ra at h ⊢
  rw [hf 46 (by omega), hf 47 (by omega), hf 48 (by omega), hI (X + 116) (by omega) (by omega), hI (X + 117) (by omega) (by omega), hI (X + 118) (by omega) (by omega), hI (X + 119) (by omega) (by omega), hI (X + 120) (by omega) (by omega), hI (X + 121) (by omega) (by omega), hI (X + 122) (by omega) (by omega), hI (X + 123) (by omega) (by omega)]
  exact h
theorem rr_x {X : Nat} {R : Nat → Rs} {μ μ' : Mm} (hf : ∀ k, k = 64 ∨ k = 65 ∨ k = 66 → mm_I μ' (X + 90) k = mm_I μ (X + 90) k) (hl : mm_L μ' (X + 90) 67 = mm_L μ (X + 90) 67) (hI : ∀ q, X + 130 ≤ q → q < X + 135 → mm_I μ' q = mm_I μ q) (hL : mm_L μ' (X + 133) = mm_L μ (X + 133)) (h : Rr X R μ) : Rr X R μ' := by
  unfold Rr at h ⊢
  rw [hf 64 (by omega), hf 65 (by omega), hf 66 (by omega), hl, hI (X + 130) (by omega) (by omega), hI (X + 131) (by omega) (by omega), hI (X + 132) (by omega) (by omega), hL, hI (X + 134) (by omega) (by omega)]
  exact h
theorem rf_x {X : Nat} {F : Int32 × Int32} {μ μ' : Mm} (h8 : mm_I μ' (X + 90) 8 = mm_I μ (X + 90) 8) (h9 : mm_I μ' (X + 90) 9 = mm_I μ (X + 90) 9) (h : Rf X F μ) : Rf X F μ' := by
  unfold Rf at h ⊢
  rw [h8, h9]
  exact h
theorem rp_x {X n : Nat} {B : Nat → Nat} {μ μ' : Mm} (h1 : mm_I μ' (X + 90) 1 = mm_I μ (X + 90) 1) (h2 : mm_I μ' (X + 91) = mm_I μ (X + 91)) (h : Rp X n B μ) : Rp X n B μ' := by
  unfold Rp at h ⊢
  rw [h1, h2]
  exact h
theorem IR_scr {X : Nat} {s : Sv} {μ μ' : Mm} (hs : Sh X μ') (hf : ∀ k, fdM k → mm_I μ' (X + 90) k = mm_I μ (X + 90) k) (hl : mm_L μ' (X + 90) 67 = mm_L μ (X + 90) 67) (hI : ∀ q, inM X q → ¬ scM X q → q ≠ X + 90 → mm_I μ' q = mm_I μ q) (hL : ∀ q, inM X q → ¬ scM X q → q ≠ X + 90 → mm_L μ' q = mm_L μ q) (h : IR X s μ) : IR X s μ' := by
  obtain ⟨-, h1, h2, h3, h4, h5⟩ := h
  have hi : ∀ q, (∃ k, q = X + k ∧ 91 ≤ k ∧ k ≤ 134 ∧ k ≠ 93 ∧ k ≠ 111 ∧ k ≠ 112 ∧ k ≠ 113 ∧ k ≠ 114 ∧ k ≠ 115 ∧ k ≠ 124 ∧ k ≠ 125 ∧ k ≠ 126 ∧ k ≠ 127 ∧ k ≠ 128 ∧ k ≠ 129) → mm_I μ' q = mm_I μ q ∧ mm_L μ' q = mm_L μ q := fun q ⟨k, e, hk⟩ => by
    subst e
    exact ⟨hI _ (by unfold inM; omega) (by unfold scM; omega) (by omega), hL _ (by unfold inM; omega) (by unfold scM; omega) (by omega)⟩
  refine ⟨hs, ?_, rp_x (hf 1 (by unfold fdM; omega)) (hi _ ⟨91, rfl, by omega⟩).1 h2, rf_x (hf 8 (by unfold fdM; omega)) (hf 9 (by unfold fdM; omega)) h3, ra_x (fun k hk => hf k (by unfold fdM; omega)) (fun q g1 g2 => (hi q ⟨q - X, by omega, by omega⟩).1) h4, rr_x (fun k hk => hf k (by unfold fdM; omega)) hl (fun q g1 g2 => (hi q ⟨q - X, by omega, by omega⟩).1) (hi _ ⟨133, rfl, by omega⟩).2 h5⟩
  unfold Rt at h1 ⊢
  rw [hf 30 (by unfold fdM; omega), hf 32 (by unfold fdM; omega), hf 33 (by unfold fdM; omega), hf 37 (by unfold fdM; omega), (hi _ ⟨110, rfl, by omega⟩).2]
  have hM : MTn (X + 90) 0 s.1 μ' := by
    have h0 := h1.1
    unfold MTn at h0 ⊢
    rw [(hi (X + 90 + 2) ⟨92, rfl, by omega⟩).1, (hi (X + 90 + 4) ⟨94, rfl, by omega⟩).1, (hi (X + 90 + 5) ⟨95, rfl, by omega⟩).1, (hi (X + 90 + 6) ⟨96, rfl, by omega⟩).1, (hi (X + 90 + 7) ⟨97, rfl, by omega⟩).1, (hi (X + 90 + 8) ⟨98, rfl, by omega⟩).1, (hi (X + 90 + 9) ⟨99, rfl, by omega⟩).1, (hi (X + 90 + 10) ⟨100, rfl, by omega⟩).1, (hi (X + 90 + 11) ⟨101, rfl, by omega⟩).1, (hi (X + 90 + 12) ⟨102, rfl, by omega⟩).1, (hi (X + 90 + 13) ⟨103, rfl, by omega⟩).1, (hi (X + 90 + 14) ⟨104, rfl, by omega⟩).1, (hi (X + 90 + 15) ⟨105, rfl, by omega⟩).1, (hi (X + 90 + 16) ⟨106, rfl, by omega⟩).1, (hi (X + 90 + 17) ⟨107, rfl, by omega⟩).1, (hi (X + 90 + 18) ⟨108, rfl, by omega⟩).1, (hi (X + 90 + 19) ⟨109, rfl, by omega⟩).1]
    exact h0
  exact ⟨hM, h1.2⟩
/-- the reference's tape alone -/
theorem IR_tp {X n' : Nat} {B' : Nat → Nat} {s : Sv} {μ μ' : Mm} (hs : Sh X μ') (hf : ∀ k, k ≠ 1 → mm_I μ' (X + 90) k = mm_I μ (X + 90) k) (hI : ∀ q, inM X q → q ≠ X + 90 → q ≠ X + 91 → mm_I μ' q = mm_I μ q) (hL : ∀ q, inM X q → mm_L μ' q = mm_L μ q) (hp : Rp X n' B' μ') (h : IR X s μ) : IR X (s.1, s.2.1, n', B', s.2.2.2.2) μ' := by
  obtain ⟨-, h1, h2, h3, h4, h5⟩ := h
  have hi : ∀ q, X + 92 ≤ q → q ≤ X + 134 → mm_I μ' q = mm_I μ q := fun q g1 g2 => hI q ⟨by omega, g2⟩ (by omega) (by omega)
  exact ⟨hs, rt_x (fun k hk => hf k (by omega)) (fun q g1 g2 => hi q g1 (by omega)) (hL _ ⟨by omega, by omega⟩) h1, hp, rf_x (hf 8 (by omega)) (hf 9 (by omega)) h3, ra_x (fun k hk => hf k (by omega)) (fun q g1 g2 => hi q (by omega) (by omega)) h4, rr_x (fun k hk => hf k (by omega)) (by rw [hL (X + 90) ⟨by omega, by omega⟩]) (fun q g1 g2 => hi q (by omega) (by omega)) (hL _ ⟨by omega, by omega⟩) h5⟩
theorem ChM_I {X a k : Nat} {v : Int32} {μ : Mm} (h : inM X a) : ChM X μ (ms_I μ a k v) := ⟨fun q hq => by rw [iI, if_neg (show ¬ q = a from fun e => hq (e ▸ h))], fun _ _ => rfl, rfl, rfl⟩
theorem ChC_I {X a k : Nat} {v : Int32} {μ : Mm} (h : ¬ inM X a) (h2 : X ≤ a) : ChC X μ (ms_I μ a k v) := ⟨fun q hq => by rw [iI, if_neg (show ¬ q = a from fun e => h (e ▸ hq))], fun _ _ => rfl, fun q hq => ⟨by rw [iI, if_neg (by omega)], rfl⟩⟩
theorem ChC_t {X : Nat} {μ μ' μ'' : Mm} (h : ChC X μ μ') (h' : ChC X μ' μ'') : ChC X μ μ'' := ⟨fun q hq => (h'.1 q hq).trans (h.1 q hq), fun q hq => (h'.2.1 q hq).trans (h.2.1 q hq), fun q hq => ⟨(h'.2.2 q hq).1.trans (h.2.2 q hq).1, (h'.2.2 q hq).2.trans (h.2.2 q hq).2⟩⟩
section CALLS
variable {b L : Nat} {xs : Nat → Int32} {X i c : Nat} {s : Sv} {μ : Mm}
theorem k_end (a : Int32) (h0 : mm_K μ b = (19, L) ∧ mm_I μ b = xs ∧ b < X) (h : IC X i c s μ) (hR : IR X s μ) : ∃ r μ1 μ2, f_X10_end X a μ = some (r, μ1) ∧ f_X11_end (X + 90) a μ1 = some (r, μ2) ∧ Inv b L xs X (i + 1) μ2 ∧ (mm_K μ1 b = (19, L) ∧ mm_I μ1 b = xs) := by
  have h1 := h.1.1
  obtain ⟨n900, hB, hn, hby⟩ := h.2.2.1
  have e10 : f_X10_end X a μ = if inR a (s.2.2.1 + 1) then some (a, ms_I μ (X + 1) 1 a) else some (-1, μ) := by
    unfold f_X10_end
    rw [if_pos (by rw [mk_0 h1]), rp_0_0 h1, ob, rf_1 h1, ob, hn, ob, wf_1 h1, ob, two_ends2 (by omega)]
  have e11 : ∀ ν, IR X s ν → f_X11_end (X + 90) a ν = if inR a (s.2.2.1 + 1) then some (a, ms_I ν (X + 90) 1 a) else some (-1, ν) := by
    intro ν hν
    unfold f_X11_end
    rw [if_pos (by rw [mk_90 hν.1]), rf_90 hν.1, ob, hν.2.2.1.1, wf_90 hν.1, ob, two_ends2 (by omega)]
  by_cases e : inR a (s.2.2.1 + 1)
  · obtain ⟨m, hm, rfl⟩ := inR_ex e (by omega)
    rw [if_pos e] at e10
    refine both (s' := (s.1, s.2.1, m, s.2.2.2.1, s.2.2.2.2)) h0 hR e10 (IC_up (IC_tp (by rfl) (by rfl) (fun q _ g1 _ _ => by rw [iI, if_neg g1]) (by rw [iI, if_neg (by omega)]) (fun _ _ _ => by rfl) ?_ h)) (ChC_I (by unfold inM; omega) (by omega)) (fun hν => ⟨ms_I (ms_I μ (X + 1) 1 (nI m)) (X + 90) 1 (nI m), by rw [e11 _ hν, if_pos e], IR_tp hν.1 (fun k hk => by rw [rI, if_neg (by omega)]) (fun q _ g1 _ => by rw [iI, if_neg g1]) (fun _ _ => by rfl) ?_ hν, ChM_I (by unfold inM; omega)⟩)
    · refine ⟨by omega, hB, by rw [rI, if_pos ⟨rfl, rfl⟩], fun j hj => ?_⟩
      rw [iI, if_neg (by omega)]
      exact hby j (by omega)
    · refine ⟨by rw [rI, if_pos ⟨rfl, rfl⟩], fun j hj => ?_⟩
      rw [iI, if_neg (by omega)]
      exact hν.2.2.1.2 j (by omega)
  · rw [if_neg e] at e10
    exact both h0 hR e10 (IC_up h) (ChC_r _ _) (fun hν => ⟨_, by rw [e11 _ hν, if_neg e], hν, ChM_r _ _⟩)
theorem IC_tn {t : Nat} (h : IC X i c s μ) (ht2 : t < (EN s.1).length) : IC X i c (s.1, t, s.2.2) (ms_I μ X 15 (nI (cr s.1 (rwT s.1 t)))) := by
  obtain ⟨g1, ⟨ok, ht, hct, htu, hsp, h15⟩, g3, g4, ⟨g5a, g5⟩, ⟨g6a, g6⟩, g7⟩ := h
  have hc := g1.2.1
  have hi : ∀ q, q ≠ X → mm_I (ms_I μ X 15 (nI (cr s.1 (rwT s.1 t)))) q = mm_I μ q := fun q hq => by rw [iI, if_neg hq]
  have hv : mm_I (ms_I μ X 15 (nI (cr s.1 (rwT s.1 t)))) X 15 = nI (cr s.1 (rwT s.1 t)) := by rw [rI, if_pos ⟨rfl, rfl⟩]
  have hP : mm_P (ms_I μ X 15 (nI (cr s.1 (rwT s.1 t)))) = mm_P μ := rfl
  have hT : tl (ms_I μ X 15 (nI (cr s.1 (rwT s.1 t)))) = tl μ := rfl
  have hL : mm_L (ms_I μ X 15 (nI (cr s.1 (rwT s.1 t)))) = mm_L μ := rfl
  generalize ms_I μ X 15 (nI (cr s.1 (rwT s.1 t))) = π at hi hv hP hT hL
  exact ⟨cb_x hP hT g1, ⟨ok, ht2, ctn_x (fun q _ _ => hi q (by omega)) hct, tuP_x (fun q _ _ => hi q (by omega)) htu, spT_x hP (fun q _ => hi q (by omega)) hsp, hv⟩, cp_x (hi _ (by omega)) (hi _ (by omega)) g3, cf_x (hi _ (by omega)) g4, ⟨g5a, ca_x (fun q _ _ => hi q (by omega)) g5⟩, ⟨g6a, cr_x (fun q _ => hi q (by omega)) g6⟩, cc_x hP hT (fun k _ _ => by rw [hi _ (by omega)]) (fun q _ => hi q (by omega)) (fun q _ => by rw [hL]) g7⟩
theorem IR_tn {t : Nat} {ν : Mm} (h : IR X s ν) : IR X (s.1, t, s.2.2) (ms_I ν (X + 90) 33 (nI t)) := by
  obtain ⟨g0, g1, g2, g3, g4, g5⟩ := h
  have hi : ∀ q, q ≠ X + 90 → mm_I (ms_I ν (X + 90) 33 (nI t)) q = mm_I ν q := fun q hq => by rw [iI, if_neg hq]
  have hf : ∀ k, k ≠ 33 → mm_I (ms_I ν (X + 90) 33 (nI t)) (X + 90) k = mm_I ν (X + 90) k := fun k hk => by rw [rI, if_neg (fun q => hk q.2)]
  have hv : mm_I (ms_I ν (X + 90) 33 (nI t)) (X + 90) 33 = nI t := by rw [rI, if_pos ⟨rfl, rfl⟩]
  have hS : Sh X (ms_I ν (X + 90) 33 (nI t)) := g0
  have hL : mm_L (ms_I ν (X + 90) 33 (nI t)) = mm_L ν := rfl
  generalize ms_I ν (X + 90) 33 (nI t) = π at hi hf hv hS hL
  refine ⟨hS, ⟨mtn_x (fun q _ _ => hi q (by omega)) g1.1, ?_, ?_, hv, ?_, ?_⟩, rp_x (hf _ (by omega)) (hi _ (by omega)) g2, rf_x (hf _ (by omega)) (hf _ (by omega)) g3, ra_x (fun k hk => hf k (by omega)) (fun q _ _ => hi q (by omega)) g4, rr_x (fun k hk => hf k (by omega)) (by rw [hL]) (fun q _ _ => hi q (by omega)) (by rw [hL]) g5⟩
  · rw [hf 30 (by omega)]; exact g1.2.1
  · rw [hf 32 (by omega)]; exact g1.2.2.1
  · rw [hf 37 (by omega)]; exact g1.2.2.2.2.1
  · rw [hL]; exact g1.2.2.2.2.2
theorem k_turn (a : Int32) (h0 : mm_K μ b = (19, L) ∧ mm_I μ b = xs ∧ b < X) (h : IC X i c s μ) (hR : IR X s μ) : ∃ r μ1 μ2, f_X10_turn X a μ = some (r, μ1) ∧ f_X11_turn (X + 90) a μ1 = some (r, μ2) ∧ Inv b L xs X (i + 1) μ2 ∧ (mm_K μ1 b = (19, L) ∧ mm_I μ1 b = xs) := by
  have h1 := h.1.1
  have hw := cb_w h.1
  obtain ⟨ok, ht, hct, htu, hsp, h15⟩ := h.2.1
  have hlen := lenE ok
  have e11 : ∀ ν, IR X s ν → f_X11_turn (X + 90) a ν = if inR a (EN s.1).length then some (1, ms_I ν (X + 90) 33 a) else some (-2, ν) := by
    intro ν hν
    unfold f_X11_turn
    rw [if_pos (by rw [mk_90 hν.1]), rf_90 hν.1, ob, hν.2.1.2.2.1, e_inN (by omega), ob, bz_if, wf_90 hν.1, ob]
  by_cases e : inR a (EN s.1).length
  · obtain ⟨t, ht2, rfl⟩ := inR_ex e (by omega)
    have e10 : f_X10_turn X (nI t) μ = some (1, ms_I μ X 15 (nI (cr s.1 (rwT s.1 t)))) := by
      unfold f_X10_turn
      rw [if_pos (by rw [mk_0 h1]), cb_p h.1, ob, tc_p8 hw, ob, e_howMany hw htu, ob, ob, tc_p8 hw, ob, e_rowOf hw ok htu ht2, ob, wf_0 h1, ob, two_ends3 (by omega), if_pos e, rwT_e ht2]
    exact both h0 hR e10 (IC_up (IC_tn h ht2)) (ChC_I (by unfold inM; omega) (by omega)) (fun hν => ⟨_, by rw [e11 _ hν, if_pos e], IR_tn hν, ChM_I (by unfold inM; omega)⟩)
  · have e10 : f_X10_turn X a μ = some (-2, μ) := by
      unfold f_X10_turn
      rw [if_pos (by rw [mk_0 h1]), cb_p h.1, ob, tc_p8 hw, ob, e_howMany hw htu, ob, two_ends3 (by omega), if_neg e]
    exact both h0 hR e10 (IC_up h) (ChC_r _ _) (fun hν => ⟨_, by rw [e11 _ hν, if_neg e], hν, ChM_r _ _⟩)
/-! feed -/
theorem by_class {v : Int32} {k : Nat} (hk : k < 32) : ((v.toUInt32 >>> ((nI k).toUInt32 &&& Int32.toUInt32 31)).toInt32) &&& (255 : Int32) = nI (v.toBitVec.toNat / 2 ^ k % 256) := by
  rw [pk_and _ 8 (by decide), pk_ushr _ _ k (us_k k hk)]
theorem by_ref {v : Int32} {k : Nat} (hk : k ≤ 24) : ((v >>> (nI k &&& 31)).toInt8.toInt32).toInt8.toInt32 = (nI (v.toBitVec.toNat / 2 ^ k % 256)).toInt8.toInt32 := by
  have e : (v >>> (nI k &&& 31)).toInt8 = (nI (v.toBitVec.toNat / 2 ^ k % 256)).toInt8 := by
    apply Int8.toBitVec_inj.mp
    apply BitVec.eq_of_getLsbD_eq
    intro j hj
    have h1 : (v >>> (nI k &&& 31)).toBitVec = v.toBitVec.sshiftRight' ((nI k &&& 31).toBitVec.smod 32) := rfl
    have h2 : ((nI k &&& 31).toBitVec.smod 32).toNat = k := by rw [sh_k (by omega)]; exact sm_k k (by omega)
    show ((v >>> (nI k &&& 31)).toBitVec.signExtend 8).getLsbD j = ((nI (v.toBitVec.toNat / 2 ^ k % 256)).toBitVec.signExtend 8).getLsbD j
    have h3 : (nI (v.toBitVec.toNat / 2 ^ k % 256)).toBitVec = BitVec.ofNat 32 (v.toBitVec.toNat / 2 ^ k % 256) := rfl
    rw [BitVec.getLsbD_signExtend, BitVec.getLsbD_signExtend, h1, h3]
    have hj32 : j < 32 := by omega
    simp only [hj, hj32, decide_true, Bool.true_and, if_true]
    show (v.toBitVec.sshiftRight ((nI k &&& 31).toBitVec.smod 32).toNat).getLsbD j = _
    rw [h2, BitVec.getLsbD_sshiftRight, BitVec.getLsbD_ofNat]
    have h4 : k + j < 32 := by omega
    have h5 : ¬ 32 ≤ j := by omega
    simp only [h4, h5, hj32, decide_true, decide_false, Bool.not_false, Bool.true_and, if_true]
    rw [show (256 : Nat) = 2 ^ 8 from rfl, Nat.testBit_mod_two_pow, decide_eq_true hj, Bool.true_and, Nat.testBit_div_two_pow, Nat.add_comm]
    rfl
  rw [e]
  simp
def ap1 (B : Nat → Nat) (n : Nat) (v : Int32) (k : Nat) : Nat → Nat := u1 B n (v.toBitVec.toNat / 2 ^ k % 256)
def ap4 (B : Nat → Nat) (n : Nat) (v : Int32) : Nat → Nat := ap1 (ap1 (ap1 (ap1 B n v 24) (n + 1) v 16) (n + 2) v 8) (n + 3) v 0
theorem ap1_lt {B : Nat → Nat} (h : ∀ j, B j < 256) (n : Nat) (v : Int32) (k : Nat) : ∀ j, ap1 B n v k j < 256 := fun j => by
  unfold ap1 u1
  split
  · exact Nat.mod_lt _ (by decide)
  · exact h j
theorem ap_step {n k : Nat} {B : Nat → Nat} {v : Int32} {ν : Mm} (h : Sh X ν) (hp : Cp X n B ν) (hn : n < 900) (hk : k < 32) : ∃ ν', f_X5_append_L3 (X + 1) v (nI k, ν) = some (.inl (nI k + (-8), ν')) ∧ Cp X (n + 1) (ap1 B n v k) ν' ∧ mm_P ν' = mm_P ν ∧ tl ν' = tl ν ∧ (∀ q, q ≠ X + 1 → q ≠ X + 2 → mm_I ν' q = mm_I ν q) ∧ mm_L ν' = mm_L ν := by
  obtain ⟨-, hB, hs, hb⟩ := hp
  have hS : Sh X (ms_I ν (X + 2) n (nI (v.toBitVec.toNat / 2 ^ k % 256))) := h
  refine ⟨ms_I (ms_I ν (X + 2) n (nI (v.toBitVec.toNat / 2 ^ k % 256))) (X + 1) 1 (nI (n + 1)), ?_, ⟨by omega, ap1_lt hB _ _ _, by rw [rI, if_pos ⟨rfl, rfl⟩], fun j hj => ?_⟩, rfl, rfl, fun q g1 g2 => by rw [iI, if_neg g1, iI, if_neg g2], rfl⟩
  · simp only [f_X5_append_L3, f_X5_append_J43]
    rw [if_neg (nI_pos (by omega)), rf_1 h, ob, hs, if_neg (by rw [show (900 : Int32) = nI 900 from rfl, nI_le_i (by omega) (by omega)]; omega), rp_1_0 h, ob, ob, by_class hk, wa_2 h _ hn, ob, rf_1 hS, ob, rI, if_neg (by omega), hs, nI_1, wf_1 hS, ob, ob]
  · rw [iI, if_neg (by omega), rI]
    unfold ap1
    by_cases e : j = n
    · subst e; rw [if_pos ⟨rfl, rfl⟩, u1_s]
    · rw [if_neg (fun q => e q.2), u1_n _ _ e]
      exact hb j (by omega)
theorem e_append {n : Nat} {B : Nat → Nat} {v : Int32} {ν : Mm} (h : Sh X ν) (hp : Cp X n B ν) (hn : n + 4 ≤ 900) : ∃ ν', f_X5_append (X + 1) v ν = some ν' ∧ Cp X (n + 4) (ap4 B n v) ν' ∧ mm_P ν' = mm_P ν ∧ tl ν' = tl ν ∧ (∀ q, q ≠ X + 1 → q ≠ X + 2 → mm_I ν' q = mm_I ν q) ∧ mm_L ν' = mm_L ν := by
  obtain ⟨ν1, a1, b1, c1, d1, e1, f1⟩ := ap_step (k := 24) (v := v) h hp (by omega) (by decide)
  obtain ⟨ν2, a2, b2, c2, d2, e2, f2⟩ := ap_step (k := 16) (v := v) (sh_x c1 d1 h) b1 (by omega) (by decide)
  obtain ⟨ν3, a3, b3, c3, d3, e3, f3⟩ := ap_step (k := 8) (v := v) (sh_x c2 d2 (sh_x c1 d1 h)) b2 (by omega) (by decide)
  obtain ⟨ν4, a4, b4, c4, d4, e4, f4⟩ := ap_step (k := 0) (v := v) (sh_x c3 d3 (sh_x c2 d2 (sh_x c1 d1 h))) b3 (by omega) (by decide)
  refine ⟨ν4, ?_, b4, by rw [c4, c3, c2, c1], by rw [d4, d3, d2, d1], fun q g1 g2 => by rw [e4 q g1 g2, e3 q g1 g2, e2 q g1 g2, e1 q g1 g2], by rw [f4, f3, f2, f1]⟩
  unfold f_X5_append
  rw [if_pos (by rw [mk_1 h]), show ((24 : Int32), ν) = (nI 24, ν) from rfl, whl_l a1, show nI 24 + (-8) = nI 16 by decide, whl_l a2, show nI 16 + (-8) = nI 8 by decide, whl_l a3, show nI 8 + (-8) = nI 0 by decide, whl_l a4]
  have : f_X5_append_L3 (X + 1) v (nI 0 + (-8), ν4) = some (.inr ν4) := by
    simp only [f_X5_append_L3]
    rw [if_pos (by decide)]
  rw [whl_r this, ob]
/-- the reference's step -/
theorem ap_stepR {n k : Nat} {B : Nat → Nat} {l1 l2 l3 l4 l5 l6 v : Int32} {ν : Mm} (h : Sh X ν) (hp : Rp X n B ν) (hn : n < 900) (hk : k ≤ 24) : ∃ ν', f_X11_feed_L73 (X + 90) l1 l2 l3 l4 l5 l6 v (nI k, ν) = some (.inl (nI k + (-8), ν')) ∧ Rp X (n + 1) (ap1 B n v k) ν' ∧ mm_P ν' = mm_P ν ∧ tl ν' = tl ν ∧ (∀ q, q ≠ X + 90 → q ≠ X + 91 → mm_I ν' q = mm_I ν q) ∧ (∀ j, j ≠ 1 → mm_I ν' (X + 90) j = mm_I ν (X + 90) j) ∧ mm_L ν' = mm_L ν := by
  obtain ⟨hs, hb⟩ := hp
  have hS : Sh X (ms_I ν (X + 91) n ((nI (v.toBitVec.toNat / 2 ^ k % 256)).toInt8.toInt32)) := h
  refine ⟨ms_I (ms_I ν (X + 91) n ((nI (v.toBitVec.toNat / 2 ^ k % 256)).toInt8.toInt32)) (X + 90) 1 (nI (n + 1)), ?_, ⟨by rw [rI, if_pos ⟨rfl, rfl⟩], fun j hj => ?_⟩, rfl, rfl, fun q g1 g2 => by rw [iI, if_neg g1, iI, if_neg g2], fun j hj => by rw [rI, if_neg (fun q => hj q.2), iI, if_neg (by omega)], rfl⟩
  · simp only [f_X11_feed_L73]
    rw [if_neg (nI_pos (by omega)), rp_90_0 h, ob, rf_90 h, ob, hs, e_paB (mk_91 h) hn (by decide), by_ref hk, ob, rf_90 hS, ob, rI, if_neg (by omega), hs, nI_1, wf_90 hS, ob, ob]
  · rw [iI, if_neg (by omega), rI]
    unfold ap1
    by_cases e : j = n
    · subst e; rw [if_pos ⟨rfl, rfl⟩, u1_s]
    · rw [if_neg (fun q => e q.2), u1_n _ _ e]
      exact hb j (by omega)
theorem e_appendR {n m : Nat} {B : Nat → Nat} {l1 l2 l3 l4 l5 v : Int32} {ν : Mm} (h : Sh X ν) (hp : Rp X n B ν) (hn : n + 4 ≤ 900) : ∃ ν', f_X11_feed_J67 (X + 90) l1 l2 l3 l4 l5 (nI m) v ν = some (.inl (nI (m + 1), ν')) ∧ Rp X (n + 4) (ap4 B n v) ν' ∧ mm_P ν' = mm_P ν ∧ tl ν' = tl ν ∧ (∀ q, q ≠ X + 90 → q ≠ X + 91 → mm_I ν' q = mm_I ν q) ∧ (∀ j, j ≠ 1 → mm_I ν' (X + 90) j = mm_I ν (X + 90) j) ∧ mm_L ν' = mm_L ν := by
  obtain ⟨ν1, a1, b1, c1, d1, e1, g1, f1⟩ := ap_stepR (k := 24) (l1 := l1) (l2 := l2) (l3 := l3) (l4 := l4) (l5 := l5) (l6 := nI m) (v := v) h hp (by omega) (by decide)
  obtain ⟨ν2, a2, b2, c2, d2, e2, g2, f2⟩ := ap_stepR (k := 16) (l1 := l1) (l2 := l2) (l3 := l3) (l4 := l4) (l5 := l5) (l6 := nI m) (v := v) (sh_x c1 d1 h) b1 (by omega) (by decide)
  obtain ⟨ν3, a3, b3, c3, d3, e3, g3, f3⟩ := ap_stepR (k := 8) (l1 := l1) (l2 := l2) (l3 := l3) (l4 := l4) (l5 := l5) (l6 := nI m) (v := v) (sh_x c2 d2 (sh_x c1 d1 h)) b2 (by omega) (by decide)
  obtain ⟨ν4, a4, b4, c4, d4, e4, g4, f4⟩ := ap_stepR (k := 0) (l1 := l1) (l2 := l2) (l3 := l3) (l4 := l4) (l5 := l5) (l6 := nI m) (v := v) (sh_x c3 d3 (sh_x c2 d2 (sh_x c1 d1 h))) b3 (by omega) (by decide)
  refine ⟨ν4, ?_, b4, by rw [c4, c3, c2, c1], by rw [d4, d3, d2, d1], fun q k1 k2 => by rw [e4 q k1 k2, e3 q k1 k2, e2 q k1 k2, e1 q k1 k2], fun j hj => by rw [g4 j hj, g3 j hj, g2 j hj, g1 j hj], by rw [f4, f3, f2, f1]⟩
  unfold f_X11_feed_J67
  rw [show ((24 : Int32), ν) = (nI 24, ν) from rfl, whl_l a1, show nI 24 + (-8) = nI 16 by decide, whl_l a2, show nI 16 + (-8) = nI 8 by decide, whl_l a3, show nI 8 + (-8) = nI 0 by decide, whl_l a4]
  have : f_X11_feed_L73 (X + 90) l1 l2 l3 l4 l5 (nI m) v (nI 0 + (-8), ν4) = some (.inr ν4) := by
    simp only [f_X11_feed_L73]
    rw [if_pos (by decide)]
  rw [whl_r this, ob]
  unfold f_X11_feed_J109
  rw [ob, nI_1]
def ap20 (B : Nat → Nat) (n : Nat) (v1 v2 v3 v4 v5 : Int32) : Nat → Nat := ap4 (ap4 (ap4 (ap4 (ap4 B n v1) (n + 4) v2) (n + 8) v3) (n + 12) v4) (n + 16) v5
theorem k_feed (v1 v2 v3 v4 v5 : Int32) (h0 : mm_K μ b = (19, L) ∧ mm_I μ b = xs ∧ b < X) (h : IC X i c s μ) (hR : IR X s μ) : ∃ r μ1 μ2, f_X10_feed X v1 v2 v3 v4 v5 μ = some (r, μ1) ∧ f_X11_feed (X + 90) v1 v2 v3 v4 v5 μ1 = some (r, μ2) ∧ Inv b L xs X (i + 1) μ2 ∧ (mm_K μ1 b = (19, L) ∧ mm_I μ1 b = xs) := by
  have h1 := h.1.1
  have hp := h.2.2.1
  obtain ⟨n900, hB, hn, hby⟩ := h.2.2.1
  by_cases e : s.2.2.1 + 20 ≤ 900
  · obtain ⟨ν1, a1, b1, c1, d1, e1, f1⟩ := e_append (v := v1) h1 hp (by omega)
    have s1 := sh_x c1 d1 h1
    obtain ⟨ν2, a2, b2, c2, d2, e2, f2⟩ := e_append (v := v2) s1 b1 (by omega)
    have s2 := sh_x c2 d2 s1
    obtain ⟨ν3, a3, b3, c3, d3, e3, f3⟩ := e_append (v := v3) s2 b2 (by omega)
    have s3 := sh_x c3 d3 s2
    obtain ⟨ν4, a4, b4, c4, d4, e4, f4⟩ := e_append (v := v4) s3 b3 (by omega)
    have s4 := sh_x c4 d4 s3
    obtain ⟨ν5, a5, b5, c5, d5, e5, f5⟩ := e_append (v := v5) s4 b4 (by omega)
    have s5 := sh_x c5 d5 s4
    have hI : ∀ q, q ≠ X + 1 → q ≠ X + 2 → mm_I ν5 q = mm_I μ q := fun q k1 k2 => by rw [e5 q k1 k2, e4 q k1 k2, e3 q k1 k2, e2 q k1 k2, e1 q k1 k2]
    have hL : mm_L ν5 = mm_L μ := by rw [f5, f4, f3, f2, f1]
    have hP : mm_P ν5 = mm_P μ := by rw [c5, c4, c3, c2, c1]
    have hT : tl ν5 = tl μ := by rw [d5, d4, d3, d2, d1]
    have e10 : f_X10_feed X v1 v2 v3 v4 v5 μ = some (nI (s.2.2.1 + 20), ν5) := by
      unfold f_X10_feed f_X5_hasRoom
      rw [if_pos (by rw [mk_0 h1]), rp_0_0 h1, ob, if_pos (by rw [mk_1 h1]), rf_1 h1, ob, hn, show (20 : Int32) = nI 20 from rfl, nI_add, if_neg (by rw [show (900 : Int32) = nI 900 from rfl, nI_lt_i (by omega) (by omega)]; omega), ob, if_neg (by decide), ob, a1, ob, rp_0_0 s1, ob, a2, ob, rp_0_0 s2, ob, a3, ob, rp_0_0 s3, ob, a4, ob, rp_0_0 s4, ob, a5, ob, rp_0_0 s5, ob, rf_1 s5, ob, b5.2.2.1]
    refine both (s' := (s.1, s.2.1, s.2.2.1 + 20, ap20 s.2.2.2.1 s.2.2.1 v1 v2 v3 v4 v5, s.2.2.2.2)) h0 hR e10 (IC_up (IC_tp hP hT (fun q _ g1 g2 _ => hI q g1 g2) (by rw [hI X (by omega) (by omega)]) (fun q _ _ => by rw [hL]) b5 h)) ⟨fun q hq => hI q (by unfold inM at hq; omega) (by unfold inM at hq; omega), fun q _ => by rw [hL], fun q hq => ⟨hI q (by omega) (by omega), by rw [tl_K hT]⟩⟩ (fun hν => ?_)
    obtain ⟨π1, a1, b1, c1, d1, e1, g1, f1⟩ := e_appendR (m := 0) (l1 := v1) (l2 := v2) (l3 := v3) (l4 := v4) (l5 := v5) (v := v1) hν.1 hν.2.2.1 (by omega)
    have s1 := sh_x c1 d1 hν.1
    obtain ⟨π2, a2, b2, c2, d2, e2, g2, f2⟩ := e_appendR (m := 1) (l1 := v1) (l2 := v2) (l3 := v3) (l4 := v4) (l5 := v5) (v := v2) s1 b1 (by omega)
    have s2 := sh_x c2 d2 s1
    obtain ⟨π3, a3, b3, c3, d3, e3, g3, f3⟩ := e_appendR (m := 2) (l1 := v1) (l2 := v2) (l3 := v3) (l4 := v4) (l5 := v5) (v := v3) s2 b2 (by omega)
    have s3 := sh_x c3 d3 s2
    obtain ⟨π4, a4, b4, c4, d4, e4, g4, f4⟩ := e_appendR (m := 3) (l1 := v1) (l2 := v2) (l3 := v3) (l4 := v4) (l5 := v5) (v := v4) s3 b3 (by omega)
    have s4 := sh_x c4 d4 s3
    obtain ⟨π5, a5, b5, c5, d5, e5, g5, f5⟩ := e_appendR (m := 4) (l1 := v1) (l2 := v2) (l3 := v3) (l4 := v4) (l5 := v5) (v := v5) s4 b4 (by omega)
    have s5 := sh_x c5 d5 s4
    have hI : ∀ q, q ≠ X + 90 → q ≠ X + 91 → mm_I π5 q = mm_I ν5 q := fun q k1 k2 => by rw [e5 q k1 k2, e4 q k1 k2, e3 q k1 k2, e2 q k1 k2, e1 q k1 k2]
    have hf : ∀ j, j ≠ 1 → mm_I π5 (X + 90) j = mm_I ν5 (X + 90) j := fun j hj => by rw [g5 j hj, g4 j hj, g3 j hj, g2 j hj, g1 j hj]
    have hL : mm_L π5 = mm_L ν5 := by rw [f5, f4, f3, f2, f1]
    have hP : mm_P π5 = mm_P ν5 := by rw [c5, c4, c3, c2, c1]
    have hT : tl π5 = tl ν5 := by rw [d5, d4, d3, d2, d1]
    refine ⟨π5, ?_, IR_tp s5 hf (fun q _ k1 k2 => hI q k1 k2) (fun q _ => by rw [hL]) b5 hν, fun q hq => hI q (by unfold inM at hq; omega) (by unfold inM at hq; omega), fun q _ => by rw [hL], hP, hT⟩
    have step : ∀ m (ν : Mm), f_X11_feed_L19 (X + 90) v1 v2 v3 v4 v5 (nI m, ν) = if 5 ≤ m ∧ m < 2 ^ 31 then some (.inr ν) else f_X11_feed_L19 (X + 90) v1 v2 v3 v4 v5 (nI m, ν) := by
      intro m ν
      by_cases q : 5 ≤ m ∧ m < 2 ^ 31
      · rw [if_pos q]
        simp only [f_X11_feed_L19]
        rw [if_pos (by rw [show (5 : Int32) = nI 5 from rfl, nI_le_i (by omega) (by omega)]; exact q.1)]
      · rw [if_neg q]
    have t1 : f_X11_feed_L19 (X + 90) v1 v2 v3 v4 v5 (nI 0, ν5) = some (.inl (nI 1, π1)) := by
      simp only [f_X11_feed_L19]; rw [if_neg (by decide), if_pos (by decide)]; exact a1
    have t2 : f_X11_feed_L19 (X + 90) v1 v2 v3 v4 v5 (nI 1, π1) = some (.inl (nI 2, π2)) := by
      simp only [f_X11_feed_L19]; rw [if_neg (by decide), if_neg (by decide), if_pos (by decide)]; exact a2
    have t3 : f_X11_feed_L19 (X + 90) v1 v2 v3 v4 v5 (nI 2, π2) = some (.inl (nI 3, π3)) := by
      simp only [f_X11_feed_L19]; rw [if_neg (by decide), if_neg (by decide), if_neg (by decide), if_pos (by decide)]; exact a3
    have t4 : f_X11_feed_L19 (X + 90) v1 v2 v3 v4 v5 (nI 3, π3) = some (.inl (nI 4, π4)) := by
      simp only [f_X11_feed_L19]; rw [if_neg (by decide), if_neg (by decide), if_neg (by decide), if_neg (by decide), if_pos (by decide)]; exact a4
    have t5 : f_X11_feed_L19 (X + 90) v1 v2 v3 v4 v5 (nI 4, π4) = some (.inl (nI 5, π5)) := by
      simp only [f_X11_feed_L19]; rw [if_neg (by decide), if_neg (by decide), if_neg (by decide), if_neg (by decide), if_neg (by decide)]; exact a5
    have t6 : f_X11_feed_L19 (X + 90) v1 v2 v3 v4 v5 (nI 5, π5) = some (.inr π5) := by rw [step, if_pos (by decide)]
    unfold f_X11_feed f_X11_feed_J115
    rw [if_pos (by rw [mk_90 hν.1]), rf_90 hν.1, ob, hν.2.2.1.1, show (20 : Int32) = nI 20 from rfl, nI_add, if_pos (by rw [show (900 : Int32) = nI 900 from rfl, nI_le_i (by omega) (by omega)]; omega), show ((0 : Int32), ν5) = (nI 0, ν5) from rfl, whl_l t1, whl_l t2, whl_l t3, whl_l t4, whl_l t5, whl_r t6, ob, rf_90 s5, ob, b5.1]
  · have e10 : f_X10_feed X v1 v2 v3 v4 v5 μ = some (-3, μ) := by
      unfold f_X10_feed f_X5_hasRoom
      rw [if_pos (by rw [mk_0 h1]), rp_0_0 h1, ob, if_pos (by rw [mk_1 h1]), rf_1 h1, ob, hn, show (20 : Int32) = nI 20 from rfl, nI_add, if_pos (by rw [show (900 : Int32) = nI 900 from rfl, nI_lt_i (by omega) (by omega)]; omega), ob, if_pos rfl]
    refine both h0 hR e10 (IC_up h) (ChC_r _ _) (fun hν => ⟨_, ?_, hν, ChM_r _ _⟩)
    unfold f_X11_feed
    rw [if_pos (by rw [mk_90 hν.1]), rf_90 hν.1, ob, hν.2.2.1.1, show (20 : Int32) = nI 20 from rfl, nI_add, if_neg (by rw [show (900 : Int32) = nI 900 from rfl, nI_le_i (by omega) (by omega)]; omega)]
end CALLS
