/-! ===== the class's census: the turnings that fit, in a row ===== -/
def flt (F : Nat → Bool) : Nat → List Nat
  | 0 => []
  | n + 1 => flt F n ++ (if F n then [n] else [])
theorem flt_n (F : Nat → Bool) : ∀ n, (flt F n).length = cntb F n := by
  intro n
  induction n with
  | zero => rfl
  | succ n ih =>
    show (flt F n ++ (if F n then [n] else [])).length = cntb F n + (F n).toNat
    rw [List.length_append, ih]
    cases F n <;> rfl
theorem flt_any (F P : Nat → Bool) : ∀ n, (flt F n).any P = anyb (fun k => F k && P k) n := by
  intro n
  induction n with
  | zero => rfl
  | succ n ih =>
    show (flt F n ++ (if F n then [n] else [])).any P = (anyb (fun k => F k && P k) n || (F n && P n))
    rw [List.any_append, ih]
    cases F n
    · rfl
    · show (_ || (P n || false)) = _
      rw [Bool.or_false, Bool.true_and]
theorem flt_m {F : Nat → Bool} : ∀ {n k : Nat}, k ∈ flt F n → k < n ∧ F k = true := by
  intro n
  induction n with
  | zero => intro k h; cases h
  | succ n ih =>
    intro k h
    replace h : k ∈ flt F n ++ (if F n then [n] else []) := h
    rcases List.mem_append.mp h with h | h
    · have := ih h
      exact ⟨by omega, this.2⟩
    · cases e : F n with
      | false => rw [e] at h; cases h
      | true =>
        rw [e] at h
        have : k = n := by simpa using h
        rw [this]; exact ⟨by omega, e⟩
def lst (F : Nat → Bool) : Nat → Option Nat
  | 0 => none
  | n + 1 => if F n then some n else lst F n
theorem flt_h (F : Nat → Bool) : ∀ n, (flt F n).head? = ff F n := by
  intro n
  induction n with
  | zero => rfl
  | succ n ih =>
    show (flt F n ++ (if F n then [n] else [])).head? = ff F (n + 1)
    rw [ff_succ, ← ih, List.head?_append]
    cases (flt F n).head? with
    | some j => rfl
    | none => cases F n <;> rfl
theorem flt_l (F : Nat → Bool) : ∀ n, (flt F n).getLast? = lst F n := by
  intro n
  induction n with
  | zero => rfl
  | succ n ih =>
    show (flt F n ++ (if F n then [n] else [])).getLast? = if F n then some n else lst F n
    cases F n with
    | true => simp
    | false => simp [ih]
theorem sI_c {a b j k : Nat} {v w : Int32} {μ : Mm} (h : a ≠ b) : ms_I (ms_I μ a j v) b k w = ms_I (ms_I μ b k w) a j v := by
  rw [sI_A (ms_I μ a j v), sI_A (ms_I μ b k w), sI_A μ, sI_A μ, iA, if_neg (Ne.symm h), iA, if_neg h, sA_c μ h]
section CEN
variable {X i c : Nat} {s : Sv} {μ ν ρ : Mm} {T : Tn} {A : Nat → Nat → Nat}
variable {Rw Ft nr sz fo : Nat} {Ml Ln : Nat → Nat}
def fmk (A : Nat → Nat → Nat) (k f : Nat) : Bool := anyb (fun j => f == A 3 j) k
def m_vl (X : Nat) (A : Nat → Nat → Nat) (st k : Nat) (μ : Mm) : Mm := ms_A μ (X + 81) (fun j => if j < k then nI (knewA A j st (A 8 1)) else mm_I μ (X + 81) j)
theorem e_vals {st : Nat} (h : Sh X μ) (ok : OkT T) (oa : OkA T A) (ca : Ca X A μ) (hs : st ≤ 999) : whl (f_X1_findFitting_L14 (X + 66) (nI st) (nI (knA A st))) ((0 : Int32), (0 : Int32), μ) = some (nI (bm (fmk A (knA A st)) 12), m_vl X A st (knA A st) μ) := by
  have kl := knA_le (A := A) (st := st)
  have o1 := oa.1
  have n12 := ok.1.2.1
  refine whl_c (knA A st) (fun k => (nI (bm (fmk A k) 12), nI k, m_vl X A st k μ)) ?_ (fun k hk => ?_) ?_
  · have e1 : bm (fmk A 0) 12 = 0 := bm_0.symm
    have e2 : m_vl X A st 0 μ = μ := by
      unfold m_vl
      rw [fill_0 (fun j => nI (knewA A j st (A 8 1))), sA_id]
    rw [e1, e2]
    rfl
  · have hS : Sh X (m_vl X A st k μ) := h
    have ca' : Ca X A (m_vl X A st k μ) := ca_x (fun q _ _ => by unfold m_vl; rw [iA, if_neg (by omega)]) ca
    have a3 := (oa.2.1 k (by omega)).2.2.2.1
    have hS2 : Sh X (ms_I (m_vl X A st k μ) (X + 81) k (nI (knewA A k st (A 8 1)))) := h
    have e8 : mm_I (ms_I (m_vl X A st k μ) (X + 81) k (nI (knewA A k st (A 8 1)))) (X + 8) k = nI (A 3 k) := by
      rw [rI, if_neg (by omega)]
      exact (ca'.2.1 k (by omega)).2.2.2.1
    simp only [f_X1_findFitting_L14]
    rw [if_neg (by rw [nI_le_i (by omega) (by omega)]; omega), rp_66_4 hS, ob, ln_81 hS, ob, if_neg (by rw [nI_le_i (by omega) (by omega)]; omega), ob, rp_66_1 hS, ob, e_knewAt hS oa ca' (by omega) hs, ob, wa_81 hS _ (by omega), ob, rp_66_1 hS2, ob, rp_4_3 hS2, ob, ra_8 hS2 (by omega), ob, e8, ob, b_one (by omega), nI_or, bm_set _ (by omega), ob, nI_1]
    have em : m_vl X A st (k + 1) μ = ms_I (m_vl X A st k μ) (X + 81) k (nI (knewA A k st (A 8 1))) := by
      unfold m_vl
      rw [sA_I, u1_fill (fun j => nI (knewA A j st (A 8 1)))]
    rw [em]
    rfl
  · simp only [f_X1_findFitting_L14]
    rw [if_pos (nI_le (Nat.le_refl _) (by omega))]
/-- the census with the fitting turnings in a row -/
def FS (X : Nat) (T : Tn) (F : Nat → Bool) (Rw Ft nr fo : Nat) (Ml Ln : Nat → Nat) (ν : Mm) : Prop := Cz X T Rw Ft nr (EN T).length fo Ml Ln ν ∧ mm_I ν (X + 66) 8 = nI (flt F (EN T).length).length ∧ ∀ (j : Nat) (hj : j < (flt F (EN T).length).length), mm_I ν Ft j = nI (flt F (EN T).length)[j]
theorem z_fit {st : Nat} (h : IW X c s μ) (hs : st ≤ 999) (z : Cz X s.1 Rw Ft nr sz fo Ml Ln μ) : ∃ ν Rw' Ft' nr' fo' Ml' Ln', f_X1_findFitting (X + 66) (nI st) μ = some ν ∧ FrZ X μ ν ∧ FS X s.1 (fits s.1 s.2.2.2.2.2.1 st) Rw' Ft' nr' fo' Ml' Ln' ν ∧ (∀ k, 11 ≤ k → mm_I ν (X + 66) k = mm_I μ (X + 66) k) ∧ (∀ f, f < s.1 0 1 → fo.testBit f = true → fo'.testBit f = true) := by
  have ok := h.2.1.1
  have h1 := h.1.1
  have hl := EN_len ok
  obtain ⟨oa, ca⟩ := h.2.2.1
  have kl := knA_le (A := s.2.2.2.2.2.1) (st := st)
  have o1 := oa.1
  have hpos : 0 < (EN s.1).length := by have := h.2.1.2.1; omega
  unfold f_X1_findFitting
  rw [if_pos (by rw [mk_66 h1]), rp_66_1 h1, ob, e_knownAt h1 oa ca hs, ob, e_vals h1 ok oa ca hs, ob]
  have fr1 : FrZ X μ (m_vl X s.2.2.2.2.2.1 st (knA s.2.2.2.2.2.1 st) μ) := FrZ_A (by omega)
  have o81 : ∀ q, q ≠ X + 81 → mm_I (m_vl X s.2.2.2.2.2.1 st (knA s.2.2.2.2.2.1 st) μ) q = mm_I μ q := fun q hq => by unfold m_vl; rw [iA, if_neg hq]
  have v81 : ∀ k, k < knA s.2.2.2.2.2.1 st → mm_I (m_vl X s.2.2.2.2.2.1 st (knA s.2.2.2.2.2.1 st) μ) (X + 81) k = nI (knewA s.2.2.2.2.2.1 k st (s.2.2.2.2.2.1 8 1)) := fun k hk => by unfold m_vl; rw [iA, if_pos rfl, if_pos hk]
  have z1 : Cz X s.1 Rw Ft nr sz fo Ml Ln (m_vl X s.2.2.2.2.2.1 st (knA s.2.2.2.2.2.1 st) μ) := cz_x (μ := μ) (by rfl) (by rfl) ⟨by rw [o81 _ (by omega)], by rw [o81 _ (by omega)]⟩ (fun q _ _ => o81 q (by omega)) (fun _ _ => by rfl) z
  have ic1 : IW X c s (m_vl X s.2.2.2.2.2.1 st (knA s.2.2.2.2.2.1 st) μ) := IW_z h fr1
  generalize m_vl X s.2.2.2.2.2.1 st (knA s.2.2.2.2.2.1 st) μ = μ1 at fr1 o81 v81 z1 ic1 ⊢
  obtain ⟨ν, Rw', Ft', nr', fo', Ml', Ln', a1, a2, a3, a4⟩ := z_find (fm := bm (fmk s.2.2.2.2.2.1 (knA s.2.2.2.2.2.1 st)) 12) ic1 (bm_lt _ 12) z1
  have icν := IW_z ic1 a2.1
  have g2 := icν.1.1
  obtain ⟨oa2, ca2⟩ := icν.2.2.1
  unfold f_X1_findFitting_J68
  rw [a1, ob, wf_66 g2, ob]
  have czν := a2.2.1
  obtain ⟨y1, y2, y3, y4, y5, y6, y8⟩ := a2.2.1
  have y5' := y5 (by omega)
  have hFt := y1.2.2.2.2.2.2.2.1
  have hfo : ∀ k, k < knA s.2.2.2.2.2.1 st → fo'.testBit (s.2.2.2.2.2.1 3 k) = true := fun k hk => by
    have q := oa.2.1 k (by omega)
    have n12 := ok.1.2.1
    refine a3 _ q.2.2.2.1 (Or.inl ?_)
    rw [bm_t, decide_eq_true (show s.2.2.2.2.2.1 3 k < 12 by omega), Bool.true_and]
    exact anyb_t.mpr ⟨k, hk, by simp⟩
  have frm : ∀ (φ : Nat → Int32) (v : Int32), FrZ X ν (ms_I (ms_A ν Ft' φ) (X + 66) 8 v) := fun φ v => FrZ_t (FrZ_A (by omega)) (FrZ_I (by omega))
  have czf : ∀ (φ : Nat → Int32) (v : Int32), Cz X s.1 Rw' Ft' nr' (EN s.1).length fo' Ml' Ln' (ms_I (ms_A ν Ft' φ) (X + 66) 8 v) := fun φ v => cz_x (μ := ν) (by rfl) (by rfl) ⟨by rw [rI, if_neg (by omega), iA, if_neg (by omega)], by rw [rI, if_neg (by omega), iA, if_neg (by omega)]⟩ (fun q hq hne => by rw [iI, if_neg (by omega), iA, if_neg hne]) (fun _ _ => by rfl) czν
  have key := whl_i (body := f_X1_findFitting_L81 (X + 66) (nI (knA s.2.2.2.2.2.1 st))) (EN s.1).length (fun t (x : Int32 × Mm) => ∃ φ, x = (nI t, ms_I (ms_A ν Ft' φ) (X + 66) 8 (nI (flt (fits s.1 s.2.2.2.2.2.1 st) t).length)) ∧ ∀ (j : Nat) (hj : j < (flt (fits s.1 s.2.2.2.2.2.1 st) t).length), φ j = nI (flt (fits s.1 s.2.2.2.2.2.1 st) t)[j]) (Q := fun ρ => ∃ φ, ρ = ms_I (ms_A ν Ft' φ) (X + 66) 8 (nI (flt (fits s.1 s.2.2.2.2.2.1 st) (EN s.1).length).length) ∧ ∀ (j : Nat) (hj : j < (flt (fits s.1 s.2.2.2.2.2.1 st) (EN s.1).length).length), φ j = nI (flt (fits s.1 s.2.2.2.2.2.1 st) (EN s.1).length)[j]) (s0 := ((0 : Int32), ms_I ν (X + 66) 8 0)) ⟨mm_I ν Ft', by rw [sA_id]; rfl, fun j hj => absurd hj (Nat.not_lt_zero _)⟩ ?_ ?_
  · obtain ⟨ρ, k1, φ, k2, k3⟩ := key
    rw [k1, ob]
    refine ⟨ρ, Rw', Ft', nr', fo', Ml', Ln', rfl, ?_, ?_, ?_, fun f hf hfo => a3 f hf (Or.inr hfo)⟩
    · rw [k2]; exact FrZ_t fr1 (FrZ_t a2.1 (frm _ _))
    · rw [k2]
      refine ⟨czf _ _, by rw [rI, if_pos ⟨rfl, rfl⟩], fun j hj => ?_⟩
      rw [iI, if_neg (by omega), iA, if_pos rfl]
      exact k3 j hj
    · intro k hk
      rw [k2, rI, if_neg (by omega), iA, if_neg (by omega), a2.2.2.1 k (by omega) (by omega), o81 _ (by omega)]
  · rintro t x ht ⟨φ, rfl, hφ⟩
    have hS := FrZ_sh (frm φ (nI (flt (fits s.1 s.2.2.2.2.2.1 st) t).length)) icν.2.2.2 g2
    have cl := cntb_le (fits s.1 s.2.2.2.2.2.1 st) t
    have fl := flt_n (fits s.1 s.2.2.2.2.2.1 st) t
    have cz := czf φ (nI (flt (fits s.1 s.2.2.2.2.2.1 st) t).length)
    have ca3 : Ca X s.2.2.2.2.2.1 (ms_I (ms_A ν Ft' φ) (X + 66) 8 (nI (flt (fits s.1 s.2.2.2.2.2.1 st) t).length)) := ca_x (fun q _ _ => by rw [iI, if_neg (by omega), iA, if_neg (by omega)]) ca2
    have isf := e_isFit (t := t) (st := st) hS ok oa ca3 cz ht hfo (fun k hk => by rw [rI, if_neg (by omega), iA, if_neg (by omega), a2.2.2.2]; exact v81 k hk)
    have f8 : mm_I (ms_I (ms_A ν Ft' φ) (X + 66) 8 (nI (flt (fits s.1 s.2.2.2.2.2.1 st) t).length)) (X + 66) 8 = nI (flt (fits s.1 s.2.2.2.2.2.1 st) t).length := by rw [rI, if_pos ⟨rfl, rfl⟩]
    simp only [f_X1_findFitting_L81, f_X1_findFitting_J131]
    rw [rf_66 hS, ob, cz.2.2.2.1.1, if_neg (by rw [nI_le_i (by omega) (by omega)]; omega), e_gfP (by rw [mk_66 hS]) cz.1.2.1, ob, e_len cz.1.2.2.2.1 ⟨by decide, by decide⟩, ob, if_neg (by rw [nI_le_i (by omega) (by omega)]; omega), isf, ob]
    cases ef : fits s.1 s.2.2.2.2.2.1 st t with
    | false =>
      have e1 : flt (fits s.1 s.2.2.2.2.2.1 st) (t + 1) = flt (fits s.1 s.2.2.2.2.2.1 st) t := by
        show _ ++ (if fits s.1 s.2.2.2.2.2.1 st t then [t] else []) = _
        rw [ef]; simp
      refine ⟨_, by rw [if_pos (show nI false.toNat = 0 from rfl), ob, nI_1], φ, by rw [e1], ?_⟩
      rw [e1]
      exact hφ
    | true =>
      have e1 : flt (fits s.1 s.2.2.2.2.2.1 st) (t + 1) = flt (fits s.1 s.2.2.2.2.2.1 st) t ++ [t] := by
        show _ ++ (if fits s.1 s.2.2.2.2.2.1 st t then [t] else []) = _
        rw [ef]; simp
      have hS2 : Sh X (ms_I (ms_I (ms_A ν Ft' φ) (X + 66) 8 (nI (flt (fits s.1 s.2.2.2.2.2.1 st) t).length)) Ft' (flt (fits s.1 s.2.2.2.2.2.1 st) t).length (nI t)) := hS
      have f8' : mm_I (ms_I (ms_I (ms_A ν Ft' φ) (X + 66) 8 (nI (flt (fits s.1 s.2.2.2.2.2.1 st) t).length)) Ft' (flt (fits s.1 s.2.2.2.2.2.1 st) t).length (nI t)) (X + 66) 8 = nI (flt (fits s.1 s.2.2.2.2.2.1 st) t).length := by rw [rI, if_neg (by omega)]; exact f8
      refine ⟨_, by rw [if_neg (show ¬ nI true.toNat = 0 by decide), ob, rf_66 hS, ob, f8, e_paI cz.1.2.2.2.1 (by omega) (by omega), ob, rf_66 hS2, ob, f8', nI_1, wf_66 hS2, ob, ob, nI_1], u1 φ (flt (fits s.1 s.2.2.2.2.2.1 st) t).length (nI t), ?_, ?_⟩
      · rw [sI_c (show X + 66 ≠ Ft' by omega), sI_u, sA_I, e1, List.length_append]
        rfl
      · rw [e1]
        intro j hj
        rw [List.length_append] at hj
        replace hj : j < (flt (fits s.1 s.2.2.2.2.2.1 st) t).length + 1 := hj
        by_cases w : j = (flt (fits s.1 s.2.2.2.2.2.1 st) t).length
        · subst w
          rw [u1_s, List.getElem_append_right (Nat.le_refl _)]
          simp
        · rw [u1_n _ _ w, List.getElem_append_left (by omega)]
          exact hφ j (by omega)
  · rintro x ⟨φ, rfl, hφ⟩
    have hS := FrZ_sh (frm φ (nI (flt (fits s.1 s.2.2.2.2.2.1 st) (EN s.1).length).length)) icν.2.2.2 g2
    have cz := czf φ (nI (flt (fits s.1 s.2.2.2.2.2.1 st) (EN s.1).length).length)
    refine ⟨_, ?_, φ, rfl, hφ⟩
    simp only [f_X1_findFitting_L81]
    rw [rf_66 hS, ob, cz.2.2.2.1.1, if_pos (nI_le (Nat.le_refl _) (by omega))]
end CEN
