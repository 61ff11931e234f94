/-! ===== a town's text: the model's clauses ===== -/
section MCL
variable {X n x : Nat} {B : Nat → Nat} {s : Drf} {μ ν ρ : Mm}
variable {D : Tn} {a b d e f g : Nat}
theorem mtn_n {j v : Nat} (hj : j < 11) (hn : j ≠ 1 ∧ j ≠ 2 ∧ j ≠ 3 ∧ j ≠ 6 ∧ j ≠ 9) (h : MTn (X + 90) 1 D μ) : MTn (X + 90) 1 (up D 0 j v) (ms_I μ (X + 92) (11 + j) (nI v)) := by
  obtain ⟨h1, h2, h3, h4, h5, h6, h7, h8⟩ := h
  have o : ∀ q, q ≠ X + 92 → mm_I (ms_I μ (X + 92) (11 + j) (nI v)) q = mm_I μ q := fun q hq => by rw [iI, if_neg hq]
  have e : ∀ k, k ≠ j → up D 0 j v 0 k = D 0 k := fun k hk => if_neg (fun z => hk z.2)
  refine ⟨fun i hi => ?_, by rw [o _ (by omega)]; exact h2, ?_, ?_, ?_, ?_, ?_, by rw [o _ (by omega)]; exact h8⟩
  · rw [rI, up_s]
    by_cases z : i = j
    · rw [if_pos ⟨by omega, by omega⟩, if_pos z]
    · rw [if_neg (by omega), if_neg z]; exact h1 i hi
  · rw [o _ (by omega), o _ (by omega), e 1 (by omega)]; exact h3
  · rw [o _ (by omega), o _ (by omega), o _ (by omega), e 2 (by omega)]; exact h4
  · rw [o _ (by omega), o _ (by omega), e 3 (by omega)]; exact h5
  · rw [o _ (by omega), o _ (by omega), o _ (by omega), e 6 (by omega)]; exact h6
  · rw [o _ (by omega), o _ (by omega), o _ (by omega), o _ (by omega), e 9 (by omega)]; exact h7
theorem mtn_11 {j v : Nat} (hj : 11 ≤ j) (h : MTn (X + 90) 1 D μ) : MTn (X + 90) 1 (up D 0 j v) μ := by
  obtain ⟨h1, h2, h3, h4, h5, h6, h7, h8⟩ := h
  have e : ∀ k, k ≠ j → up D 0 j v 0 k = D 0 k := fun k hk => if_neg (fun z => hk z.2)
  refine ⟨fun i hi => by rw [e i (by omega)]; exact h1 i hi, h2, ?_, ?_, ?_, ?_, ?_, h8⟩
  · rw [e 1 (by omega)]; exact h3
  · rw [e 2 (by omega)]; exact h4
  · rw [e 3 (by omega)]; exact h5
  · rw [e 6 (by omega)]; exact h6
  · rw [e 9 (by omega)]; exact h7
theorem mtn_1 {p v : Nat} (h : MTn (X + 90) 1 D μ) : MTn (X + 90) 1 (up D 1 p v) (ms_I μ (X + 94) (8 + p) (nI v)) := by
  obtain ⟨h1, h2, h3, h4, h5, h6, h7, h8⟩ := h
  have o : ∀ q, q ≠ X + 94 → mm_I (ms_I μ (X + 94) (8 + p) (nI v)) q = mm_I μ q := fun q hq => by rw [iI, if_neg hq]
  refine ⟨by rw [o _ (by omega)]; exact h1, fun i hi => ?_, by rw [o _ (by omega), o _ (by omega)]; exact h3, by rw [o _ (by omega), o _ (by omega), o _ (by omega)]; exact h4, by rw [o _ (by omega), o _ (by omega)]; exact h5, by rw [o _ (by omega), o _ (by omega), o _ (by omega)]; exact h6, by rw [o _ (by omega), o _ (by omega), o _ (by omega), o _ (by omega)]; exact h7, by rw [o _ (by omega)]; exact h8⟩
  rw [rI, up_s]
  by_cases z : i = p
  · rw [if_pos ⟨by omega, by omega⟩, if_pos z]
  · rw [if_neg (by omega), if_neg z]; exact h2 i hi
theorem mtn_16 {p v : Nat} (h : MTn (X + 90) 1 D μ) (hI : mm_I ν (X + 109) = u1 (mm_I μ (X + 109)) (8 + p) (nI v)) (ho : ∀ q, X + 92 ≤ q → q < X + 109 → mm_I ν q = mm_I μ q) : MTn (X + 90) 1 (up D 16 p v) ν := by
  obtain ⟨h1, h2, h3, h4, h5, h6, h7, h8⟩ := h
  refine ⟨by rw [ho _ (by omega) (by omega)]; exact h1, by rw [ho _ (by omega) (by omega)]; exact h2, by rw [ho _ (by omega) (by omega), ho _ (by omega) (by omega)]; exact h3, by rw [ho _ (by omega) (by omega), ho _ (by omega) (by omega), ho _ (by omega) (by omega)]; exact h4, by rw [ho _ (by omega) (by omega), ho _ (by omega) (by omega)]; exact h5, by rw [ho _ (by omega) (by omega), ho _ (by omega) (by omega), ho _ (by omega) (by omega)]; exact h6, by rw [ho _ (by omega) (by omega), ho _ (by omega) (by omega), ho _ (by omega) (by omega), ho _ (by omega) (by omega)]; exact h7, fun i hi => ?_⟩
  rw [show X + 90 + 19 = X + 109 from rfl, hI, up_s]
  by_cases z : i = p
  · rw [if_pos z, show 8 * 1 + i = 8 + p by omega, u1_s]
  · rw [if_neg z, u1_n _ _ (by omega)]; exact h8 i hi
theorem mtn_fac (h : MTn (X + 90) 1 D ν) (ha' : mm_I ν (X + 95) (12 + D 0 1) = nI a) (hd' : mm_I ν (X + 96) (12 + D 0 1) = nI d) : MTn (X + 90) 1 (aFac D a d) (ms_I ν (X + 92) 12 (nI (D 0 1 + 1))) := by
  obtain ⟨h1, h2, h3, h4, h5, h6, h7, h8⟩ := h
  have o : ∀ q, q ≠ X + 92 → mm_I (ms_I ν (X + 92) 12 (nI (D 0 1 + 1))) q = mm_I ν q := fun q hq => by rw [iI, if_neg hq]
  refine ⟨fun i hi => ?_, by rw [o _ (by omega)]; exact h2, fun i hi => ?_, by rw [o _ (by omega), o _ (by omega), o _ (by omega)]; exact h4, by rw [o _ (by omega), o _ (by omega)]; exact h5, by rw [o _ (by omega), o _ (by omega), o _ (by omega)]; exact h6, by rw [o _ (by omega), o _ (by omega), o _ (by omega), o _ (by omega)]; exact h7, by rw [o _ (by omega)]; exact h8⟩
  · have e : aFac D a d 0 i = if i = 1 then D 0 1 + 1 else D 0 i := up_s _ 0 1 (D 0 1 + 1) i
    rw [rI, e]
    by_cases z : i = 1
    · rw [if_pos ⟨by omega, by omega⟩, if_pos z]
    · rw [if_neg (by omega), if_neg z]; exact h1 i hi
  · replace hi : i < D 0 1 + 1 := hi
    have e2 : aFac D a d 2 i = if i = D 0 1 then a else D 2 i := up_s D 2 (D 0 1) a i
    have e3 : aFac D a d 3 i = if i = D 0 1 then d else D 3 i := up_s (up D 2 (D 0 1) a) 3 (D 0 1) d i
    rw [e2, e3, o _ (by omega), o _ (by omega)]
    by_cases z : i = D 0 1
    · rw [if_pos z, if_pos z, show 12 * 1 + i = 12 + D 0 1 by omega]
      exact ⟨ha', hd'⟩
    · rw [if_neg z, if_neg z]; exact h3 i (by omega)
theorem mtn_nap (h : MTn (X + 90) 1 D ν) (ha' : mm_I ν (X + 100) (8 + D 0 3) = nI a) (hd' : mm_I ν (X + 101) (8 + D 0 3) = nI d) : MTn (X + 90) 1 (aNap D a d) (ms_I ν (X + 92) 14 (nI (D 0 3 + 1))) := by
  obtain ⟨h1, h2, h3, h4, h5, h6, h7, h8⟩ := h
  have o : ∀ q, q ≠ X + 92 → mm_I (ms_I ν (X + 92) 14 (nI (D 0 3 + 1))) q = mm_I ν q := fun q hq => by rw [iI, if_neg hq]
  refine ⟨fun i hi => ?_, by rw [o _ (by omega)]; exact h2, by rw [o _ (by omega), o _ (by omega)]; exact h3, by rw [o _ (by omega), o _ (by omega), o _ (by omega)]; exact h4, fun i hi => ?_, by rw [o _ (by omega), o _ (by omega), o _ (by omega)]; exact h6, by rw [o _ (by omega), o _ (by omega), o _ (by omega), o _ (by omega)]; exact h7, by rw [o _ (by omega)]; exact h8⟩
  · have e : aNap D a d 0 i = if i = 3 then D 0 3 + 1 else D 0 i := up_s _ 0 3 (D 0 3 + 1) i
    rw [rI, e]
    by_cases z : i = 3
    · rw [if_pos ⟨by omega, by omega⟩, if_pos z]
    · rw [if_neg (by omega), if_neg z]; exact h1 i hi
  · replace hi : i < D 0 3 + 1 := hi
    have e7 : aNap D a d 7 i = if i = D 0 3 then a else D 7 i := up_s D 7 (D 0 3) a i
    have e8 : aNap D a d 8 i = if i = D 0 3 then d else D 8 i := up_s (up D 7 (D 0 3) a) 8 (D 0 3) d i
    rw [e7, e8, o _ (by omega), o _ (by omega)]
    by_cases z : i = D 0 3
    · rw [if_pos z, if_pos z, show 8 * 1 + i = 8 + D 0 3 by omega]
      exact ⟨ha', hd'⟩
    · rw [if_neg z, if_neg z]; exact h5 i (by omega)
theorem mtn_tal (h : MTn (X + 90) 1 D ν) (ha' : mm_I ν (X + 97) (8 + D 0 2) = nI a) (hb' : mm_I ν (X + 98) (8 + D 0 2) = nI b) (he' : mm_I ν (X + 99) (8 + D 0 2) = nI e) : MTn (X + 90) 1 (aTal D a b e) (ms_I ν (X + 92) 13 (nI (D 0 2 + 1))) := by
  obtain ⟨h1, h2, h3, h4, h5, h6, h7, h8⟩ := h
  have o : ∀ q, q ≠ X + 92 → mm_I (ms_I ν (X + 92) 13 (nI (D 0 2 + 1))) q = mm_I ν q := fun q hq => by rw [iI, if_neg hq]
  refine ⟨fun i hi => ?_, by rw [o _ (by omega)]; exact h2, by rw [o _ (by omega), o _ (by omega)]; exact h3, fun i hi => ?_, by rw [o _ (by omega), o _ (by omega)]; exact h5, by rw [o _ (by omega), o _ (by omega), o _ (by omega)]; exact h6, by rw [o _ (by omega), o _ (by omega), o _ (by omega), o _ (by omega)]; exact h7, by rw [o _ (by omega)]; exact h8⟩
  · have e : aTal D a b e 0 i = if i = 2 then D 0 2 + 1 else D 0 i := up_s _ 0 2 (D 0 2 + 1) i
    rw [rI, e]
    by_cases z : i = 2
    · rw [if_pos ⟨by omega, by omega⟩, if_pos z]
    · rw [if_neg (by omega), if_neg z]; exact h1 i hi
  · replace hi : i < D 0 2 + 1 := hi
    have e4 : aTal D a b e 4 i = if i = D 0 2 then a else D 4 i := up_s D 4 (D 0 2) a i
    have e5 : aTal D a b e 5 i = if i = D 0 2 then b else D 5 i := up_s (up D 4 (D 0 2) a) 5 (D 0 2) b i
    have e6 : aTal D a b e 6 i = if i = D 0 2 then e else D 6 i := up_s (up (up D 4 (D 0 2) a) 5 (D 0 2) b) 6 (D 0 2) e i
    rw [e4, e5, e6, o _ (by omega), o _ (by omega), o _ (by omega)]
    by_cases z : i = D 0 2
    · rw [if_pos z, if_pos z, if_pos z, show 8 * 1 + i = 8 + D 0 2 by omega]
      exact ⟨ha', hb', he'⟩
    · rw [if_neg z, if_neg z, if_neg z]; exact h4 i (by omega)
theorem mtn_dul (h : MTn (X + 90) 1 D ν) (ha' : mm_I ν (X + 102) (8 + D 0 6) = nI a) (hd' : mm_I ν (X + 103) (8 + D 0 6) = nI d) (he' : mm_I ν (X + 104) (8 + D 0 6) = nI e) : MTn (X + 90) 1 (aDul D a d e) (ms_I ν (X + 92) 17 (nI (D 0 6 + 1))) := by
  obtain ⟨h1, h2, h3, h4, h5, h6, h7, h8⟩ := h
  have o : ∀ q, q ≠ X + 92 → mm_I (ms_I ν (X + 92) 17 (nI (D 0 6 + 1))) q = mm_I ν q := fun q hq => by rw [iI, if_neg hq]
  refine ⟨fun i hi => ?_, by rw [o _ (by omega)]; exact h2, by rw [o _ (by omega), o _ (by omega)]; exact h3, by rw [o _ (by omega), o _ (by omega), o _ (by omega)]; exact h4, by rw [o _ (by omega), o _ (by omega)]; exact h5, fun i hi => ?_, by rw [o _ (by omega), o _ (by omega), o _ (by omega), o _ (by omega)]; exact h7, by rw [o _ (by omega)]; exact h8⟩
  · have e : aDul D a d e 0 i = if i = 6 then D 0 6 + 1 else D 0 i := up_s _ 0 6 (D 0 6 + 1) i
    rw [rI, e]
    by_cases z : i = 6
    · rw [if_pos ⟨by omega, by omega⟩, if_pos z]
    · rw [if_neg (by omega), if_neg z]; exact h1 i hi
  · replace hi : i < D 0 6 + 1 := hi
    have e9 : aDul D a d e 9 i = if i = D 0 6 then a else D 9 i := up_s D 9 (D 0 6) a i
    have e10 : aDul D a d e 10 i = if i = D 0 6 then d else D 10 i := up_s (up D 9 (D 0 6) a) 10 (D 0 6) d i
    have e11 : aDul D a d e 11 i = if i = D 0 6 then e else D 11 i := up_s (up (up D 9 (D 0 6) a) 10 (D 0 6) d) 11 (D 0 6) e i
    rw [e9, e10, e11, o _ (by omega), o _ (by omega), o _ (by omega)]
    by_cases z : i = D 0 6
    · rw [if_pos z, if_pos z, if_pos z, show 8 * 1 + i = 8 + D 0 6 by omega]
      exact ⟨ha', hd', he'⟩
    · rw [if_neg z, if_neg z, if_neg z]; exact h6 i (by omega)
theorem mtn_wis (h : MTn (X + 90) 1 D ν) (ha' : mm_I ν (X + 105) (8 + D 0 9) = nI a) (hf' : mm_I ν (X + 106) (8 + D 0 9) = nI f) (hd' : mm_I ν (X + 107) (8 + D 0 9) = nI d) (hg' : mm_I ν (X + 108) (8 + D 0 9) = nI g) : MTn (X + 90) 1 (aWis D g a f d) (ms_I ν (X + 92) 20 (nI (D 0 9 + 1))) := by
  obtain ⟨h1, h2, h3, h4, h5, h6, h7, h8⟩ := h
  have o : ∀ q, q ≠ X + 92 → mm_I (ms_I ν (X + 92) 20 (nI (D 0 9 + 1))) q = mm_I ν q := fun q hq => by rw [iI, if_neg hq]
  refine ⟨fun i hi => ?_, by rw [o _ (by omega)]; exact h2, by rw [o _ (by omega), o _ (by omega)]; exact h3, by rw [o _ (by omega), o _ (by omega), o _ (by omega)]; exact h4, by rw [o _ (by omega), o _ (by omega)]; exact h5, by rw [o _ (by omega), o _ (by omega), o _ (by omega)]; exact h6, fun i hi => ?_, by rw [o _ (by omega)]; exact h8⟩
  · have e : aWis D g a f d 0 i = if i = 9 then D 0 9 + 1 else D 0 i := up_s _ 0 9 (D 0 9 + 1) i
    rw [rI, e]
    by_cases z : i = 9
    · rw [if_pos ⟨by omega, by omega⟩, if_pos z]
    · rw [if_neg (by omega), if_neg z]; exact h1 i hi
  · replace hi : i < D 0 9 + 1 := hi
    have e12 : aWis D g a f d 12 i = if i = D 0 9 then a else D 12 i := up_s D 12 (D 0 9) a i
    have e13 : aWis D g a f d 13 i = if i = D 0 9 then f else D 13 i := up_s (up D 12 (D 0 9) a) 13 (D 0 9) f i
    have e14 : aWis D g a f d 14 i = if i = D 0 9 then d else D 14 i := up_s (up (up D 12 (D 0 9) a) 13 (D 0 9) f) 14 (D 0 9) d i
    have e15 : aWis D g a f d 15 i = if i = D 0 9 then g else D 15 i := up_s (up (up (up D 12 (D 0 9) a) 13 (D 0 9) f) 14 (D 0 9) d) 15 (D 0 9) g i
    rw [e12, e13, e14, e15, o _ (by omega), o _ (by omega), o _ (by omega), o _ (by omega)]
    by_cases z : i = D 0 9
    · rw [if_pos z, if_pos z, if_pos z, if_pos z, show 8 * 1 + i = 8 + D 0 9 by omega]
      exact ⟨ha', hf', hd', hg'⟩
    · rw [if_neg z, if_neg z, if_neg z, if_neg z]; exact h7 i (by omega)
/-- a cell behind those that are told -/
def bhd (D : Tn) (r k : Nat) : Prop := ((r = 5 ∨ r = 6) ∧ k = 12 + D 0 1) ∨ ((r = 7 ∨ r = 8 ∨ r = 9) ∧ k = 8 + D 0 2) ∨ ((r = 10 ∨ r = 11) ∧ k = 8 + D 0 3) ∨ ((r = 12 ∨ r = 13 ∨ r = 14) ∧ k = 8 + D 0 6) ∨ ((r = 15 ∨ r = 16 ∨ r = 17 ∨ r = 18) ∧ k = 8 + D 0 9)
theorem bhd_h {r k : Nat} (h : bhd D r k) : hlf r k := by unfold bhd at h; unfold hlf; omega
theorem mtn_b {r k : Nat} (hb : bhd D r k) (hI : ∀ q j, X + 92 ≤ q → q ≤ X + 109 → (q = X + 90 + r → j ≠ k) → mm_I ν q j = mm_I μ q j) (h : MTn (X + 90) 1 D μ) : MTn (X + 90) 1 D ν := by
  obtain ⟨h1, h2, h3, h4, h5, h6, h7, h8⟩ := h
  unfold bhd at hb
  refine ⟨fun j hj => ?_, fun j hj => ?_, fun j hj => ?_, fun j hj => ?_, fun j hj => ?_, fun j hj => ?_, fun j hj => ?_, fun j hj => ?_⟩
  · rw [hI _ _ (by omega) (by omega) (by omega)]; exact h1 j hj
  · rw [hI _ _ (by omega) (by omega) (by omega)]; exact h2 j hj
  · rw [hI _ _ (by omega) (by omega) (by omega), hI _ _ (by omega) (by omega) (by omega)]; exact h3 j hj
  · rw [hI _ _ (by omega) (by omega) (by omega), hI _ _ (by omega) (by omega) (by omega), hI _ _ (by omega) (by omega) (by omega)]; exact h4 j hj
  · rw [hI _ _ (by omega) (by omega) (by omega), hI _ _ (by omega) (by omega) (by omega)]; exact h5 j hj
  · rw [hI _ _ (by omega) (by omega) (by omega), hI _ _ (by omega) (by omega) (by omega), hI _ _ (by omega) (by omega) (by omega)]; exact h6 j hj
  · rw [hI _ _ (by omega) (by omega) (by omega), hI _ _ (by omega) (by omega) (by omega), hI _ _ (by omega) (by omega) (by omega), hI _ _ (by omega) (by omega) (by omega)]; exact h7 j hj
  · rw [hI _ _ (by omega) (by omega) (by omega)]; exact h8 j hj
theorem FrW_c {X a k : Nat} {v : Int32} (h : FrW X a k v μ ν) : mm_I ν a k = v := by rw [h.2.2.1, u1_s]
theorem MDr_W {r k : Nat} {v : Int32} (hb : bhd s.1 r k) (f : FrW X (X + 90 + r) k v μ ν) (h : MDr X s μ) : MDr X s ν := by
  obtain ⟨h1, h2, o, h3, h4⟩ := h
  have hh := hlf_b (bhd_h hb)
  refine ⟨mtn_b hb (fun q j a b c => ?_) h1, fun k hk => by rw [f.2.2.2.2.1 _ (by omega)]; exact h2 k hk, o, by rw [f.2.2.2.2.2.1 31 (by omega)]; exact h3, by rw [f.2.2.2.2.2.1 8 (by omega), f.2.2.2.2.2.1 9 (by omega)]; exact h4⟩
  by_cases e : q = X + 90 + r
  · rw [e, f.2.2.1, u1_n _ _ (c e)]
  · rw [f.2.2.2.1 q (by omega) e]
/-- the draft's numbers are told anew -/
theorem MS_n {j : Nat} {v : Int32} (hj : j < 22) (h11 : 11 ≤ j) (h : MS X n B s x μ) (ok : OkT D) (hm : MTn (X + 90) 1 D (ms_I μ (X + 92) j v)) (h0 : D 0 0 = s.1 0 0) : MS X n B (D, s.2) x (ms_I μ (X + 92) j v) ∧ FrM X μ (ms_I μ (X + 92) j v) := by
  have f : FrM X μ (ms_I μ (X + 90 + 2) j v) := FrM_I (Or.inl ⟨rfl, h11⟩)
  obtain ⟨g1, g2, k1, k2, o, k3, k4⟩ := h
  refine ⟨⟨MT_w f (by rw [iI, if_neg (by omega)]) rfl g1, ok, hm, fun k hk => k2 k (by rw [← h0]; exact hk), o, by rw [rI, if_neg (by omega)]; exact k3, by rw [rI, if_neg (by omega), rI, if_neg (by omega)]; exact k4⟩, f⟩
end MCL
